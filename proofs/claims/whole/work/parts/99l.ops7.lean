/-! ===== L2: call, values, clear ===== -/
theorem RC.f4 {G : GG} {m : MM} {d tt : Nat} {B : Nat → Int32} {K : List Ko} {P : List Enm} {g : Sg} {fr : List Fr} {st : List Int32} {ca : Nat} {fc v : Int32} (h : RC G m d tt B K P g fr st ca fc) : RC G (sI m d 4 v) d tt B K P g fr st ca fc := by
  obtain ⟨a1, a2, a3, a4, a5, a6, a7⟩ := h
  have gi : ∀ p, p ≠ 4 → gI (sI m d 4 v) d p = gI m d p := fun p x => gI_sI_ne (Or.inr x)
  exact ⟨a1.gen (a1.1.kept (OM.f (k := 4) (v := v))) (gi _ (by omega)) (fun i _ _ => fI (by omega)), a2.kept (fun i _ _ => fI (by omega)), a3.kept (gi _ (by omega)) (fI (by omega)), ⟨by rw [gi _ (by omega)]; exact a4.1, a4.2.kept (fun p j x _ _ => congrFun (fI (by omega)) j)⟩, ⟨by rw [gi _ (by omega)]; exact a5.1, a5.2.kept (fun j _ => congrFun (fI (by omega)) j)⟩, by rw [gi _ (by omega)]; exact a6, by rw [gi _ (by omega)]; exact a7⟩
theorem ZR.run4 {G : GG} {m m1 : MM} {d tt lenT : Nat} {BT : Nat → Int32} {len : Nat} {B : Nat → Int32} {P : List Enm} {K : List Ko} {g g' : Sg} {he : Nat} {hs : List Nat} {ca k : Nat} {fc fc' : Int32} {F : Nat × Nat} (h : ZR G m d tt lenT BT len B P K g he hs ca fc F) (o : OM m m1 d [4, 61, 62, 63, 64, 70] [42, 43, 44, 45, 46, 47, 48, 49, 50, 51]) (c : RN G m1 d tt B K P g' k fc') : ZR G m1 d tt lenT BT len B P K g' he hs k fc' F := by
  obtain ⟨h1, h2, h3, h6, h7, h8, h9, h10, h11, h12⟩ := id h
  have fa : ∀ p, 0 < p → p < 42 ∨ 51 < p → m1.1 (d + p) = m.1 (d + p) := fun p hp hq => o.2.2.1 _ (by omega) (fun x hx => by simp at hx; omega)
  have fl : ∀ p, p ≠ 4 → p < 61 ∨ 70 < p → gI m1 d p = gI m d p := fun p hq hp => o.I (by simp; omega)
  exact h.mk o (by simp) (fun i a b => by simp; omega) ⟨by rw [fl _ (by omega) (by omega)]; exact h3.1, fun i hi => (congrFun (fa _ (by omega) (by omega)) _).trans (h3.2 i hi)⟩ c.2.1 c.2.2.1 ⟨c.2.2.2.1, c.2.2.2.2⟩ ⟨by rw [fl _ (by omega) (by omega)]; exact h11.1, fun z => by rw [fl _ (by omega) (by omega)]; exact h11.2.1 z, fun i c hc => (congrFun (fa _ (by omega) (by omega)) _).trans (h11.2.2 i c hc)⟩ ⟨by rw [fl _ (by omega) (by omega)]; exact h12.1, by rw [fl _ (by omega) (by omega)]; exact h12.2⟩
theorem OMr.f4 {m m1 : MM} {d : Nat} (h : OMr m m1 d) : OM m m1 d [4, 61, 62, 63, 64, 70] [42, 43, 44, 45, 46, 47, 48, 49, 50, 51] := OM.mono h (fun a ha => by simp at ha ⊢; omega) (fun _ z => z)
/-- the class's exp of a member -/
theorem cc_code {G : GG} {m : MM} {n pl tl len : Nat} {B : Nat → Int32} {P : List Enm} {K : List Ko} {gc : Nat → Nat → Nat → Int32} {g : Sg} {k e c i a : Nat} {st : List Int32} {E : Enm} {y : Mem} (h : CX G m n pl tl len B P K gc g k st) (hE : P[e]? = some E) (hc : c < E.2.1.length) (hy : (mbs E.2.2)[i]? = some y) (ha : gc e c i = nI a ∧ a ≤ 2000 ∨ gc e c i = -1 ∧ y.1 = 6 ∧ y.2.2.2 = a) : M_X1_codeOf G (pl + 4 + 12 * e) (nI c) (nI i) m = some (nI a, m) := by
  obtain ⟨b1, b2, b3, b4, b5, b6, b7⟩ := pb_en h.1.2.2.2.2.2.1 hE
  have he := get_lt hE
  have hi := get_lt hy
  unfold M_X1_codeOf
  rw [bd_e (cv_give h.1 hE hc hi)]
  rcases ha with ⟨w, w2⟩ | ⟨w, w6, wa⟩
  · rw [w, if_neg (nI_m1 (by omega))]
  · have hl5 := cv_le h.1 he 5 (by omega)
    have hz5 : G.2.2 (pl + 4 + 12 * e + 1 + 5) = 8 := hl5.2
    have h6 := ((h.1.2.2.2.2.2.2 e E hE).2.1.2.2.2.2.2.2.2.1 i y hy).2
    rw [if_neg (by omega), wa] at h6
    rw [w, if_pos rfl, bd_e (cv_hasM h.1 hE hi), if_pos rfl, nb_e hl5.1, hz5, ib_n (by omega) (by omega), nI_clamp (by omega), show pl + 4 + 12 * e + 1 + 5 = pl + 4 + 12 * e + 6 by omega, h6]
theorem op_call {G : GG} {n : Nat} {m : MM} (h : INV G m n) (x y z : Int32) : BOTH G n m (M_X10_call G n x y z) (M_X11_call G (n + 216) x y z) := by
  have h0 := h
  obtain ⟨pl, ps, tp, tl, tt, lenT, BT, len, B, P, K, gc, g, hd, hs, ca, fc, F, hA, hC, hR, hF⟩ := h
  have c3 := hC.2.2.1
  have c2 := hC.2.1
  have hP := c3.2.2.2.2.2.1
  unfold BOTH M_X10_call M_X11_call
  rcases zz_const hP hR x y with ⟨e, E, c, hE, hx, hc, hy, hi⟩ | ⟨hx, hi⟩
  · obtain ⟨b1, b2, b3, b4, b5, b6, b7⟩ := pb_en hP hE
    have hne : P ≠ [] := fun z => by rw [z] at hE; simp at hE
    have he := get_lt hE
    have htt := hR.2.1.2
    subst hx
    subst hy
    have n13 := (c3.2.2.2.2.2.2 e E hE).2.1.2.2.1
    have nf : ∀ {mm : MM}, ZR G mm (n + 216) tt lenT BT len B P K g hd hs ca fc F → gI mm (n + 216 + 7) (8 * tt + e) = nI (mbs E.2.2).length := fun hz => ((hz.2.2.2.2.1 hne).1.2.2.2.1.2 e E hE).2.2.2.1.1
    rcases mr_in (G := G) (m := m) (x := z) (N := (mbs E.2.2).length) (by omega) with ⟨i, j1, j2, j3⟩ | ⟨j1, j2⟩
    · obtain ⟨q, hq⟩ := lt_get j1
      subst j2
      have inT : ∀ mm : MM, M_X11_in G (nI i) 0 (nI (mbs E.2.2).length - 1) mm = some (true, mm) := fun mm => by
        rcases mr_in (G := G) (m := mm) (x := nI i) (N := (mbs E.2.2).length) (by omega) with ⟨-, -, -, e⟩ | ⟨e, -⟩
        · exact e
        · exfalso
          rcases e with e | e
          · exact nI_pos (by omega) e
          · have := (nI_leI (by omega) (by omega)).mp e
            omega
      have hk6 := wnt_k (B := B) (P := P) (K := K) 10 e g
      obtain ⟨m1, k1, hC1, cx, u1⟩ := hC.begin hA
      obtain ⟨m2, w1, w2, w3, w4⟩ := want_c hA.1 hA.2.2.2.2.1 hF.1 hF.2.2.2.1 hE cx
      have hC2 := hC1.run hA w3 w2
      have hF2 := hF.run (g' := (wnt B P K 10 e g).2) (wnt_gs 10 e g) (wnt_n 10 e g) hk6
      by_cases k : (wnt B P K 10 e g).1 = 0
      · have g1 := hF2.st1 he (w4 k)
        rw [k] at w2
        -- the exp
        obtain ⟨a, ha1, ha2, ha3⟩ : ∃ a, ptr K a e 0 ∧ (gc e c i = nI a ∧ a ≤ 2000 ∨ gc e c i = -1 ∧ q.1 = 6 ∧ q.2.2.2 = a) ∧ ((∃ k' x', gvF B e c q.2.1 (gvi 0 K) 0 = some k' ∧ (gvi 0 K)[k']? = some x' ∧ x'.1 + 1 = a) ∨ (gvF B e c q.2.1 (gvi 0 K) 0 = none ∧ q.1 = 6 ∧ q.2.2.2 = a)) := by
          rcases call_code hF.1 hF.2.2.1 hE hc hq with ⟨k', x', v1, v2, v3, v4, v5⟩ | ⟨v1, v2, v3, v4⟩
          · exact ⟨x'.1 + 1, v5, Or.inl ⟨v3, by omega⟩, Or.inl ⟨k', x', v1, v2, rfl⟩⟩
          · exact ⟨q.2.2.2, v4, Or.inr ⟨v2, v3, rfl⟩, Or.inr ⟨v1, v3, rfl⟩⟩
        have z8 := zc_8 (wnt B P K 10 e g).2
        obtain ⟨v, m3, x1, x2, x3, x4⟩ := cr_work (c := c) (x3 := nI c) (dd := 0) hA.1 hA.2.2.2.2.1 hF.1 (cr_want (G := G) (len := len) (gc := gc) hA.1 hA.2.2.2.2.1 hF.1 10 0) (wnt_gs 10) (wnt_k 10) hE ha1 (fun _ => ⟨rfl, hc⟩) (by simp) (by omega) w2 hF2.2.2.2.1 (by omega) (by omega)
        have hk7 := xrun_k (B := B) (P := P) (e := e) (c := c) (E := E) (wnt_k (B := B) (P := P) (K := K) 10) (seg K a) [] (wnt B P K 10 e g).2
        have hC3 := hC2.run hA x3 x2
        have hF3 := hF2.run (g' := (xrun (wnt B P K 10) B P e E c (seg K a) [] (wnt B P K 10 e g).2).2.2) (xrun_gs (wnt_gs 10) _ _ _) (xrun_n (wnt_n 10) _ _ _) hk7
        obtain ⟨m4, q1, q2, u4⟩ := hC3.fin (v := v) hA x2.2.2.2.2.1 hk7
        have hR4 := hR.ou (u1.tr ((w3.ou hA.1).tr ((x3.ou hA.1).tr u4)))
        obtain ⟨m5, r1, r2, r3⟩ := mr_want hF.1 hF.2.1 hE hF.2.2.2.1 (hR4.rn hne)
        rw [k, if_pos rfl] at r2
        have rc5 := r2.f4 (v := nI tt)
        obtain ⟨m6, s1, s2, s3⟩ := mr_call hF.1 hF.2.1 hE hc hF2.2.2.2.1 g1 ha1 rc5
        have oR : OM m4 m6 (n + 216) [4, 61, 62, 63, 64, 70] [42, 43, 44, 45, 46, 47, 48, 49, 50, 51] := OM.tr1 (OMr.f4 (OMr.tr (OMr.f (by omega)) r3)) (OM.tr1 ((OM.f (k := 4) (v := nI tt)).mono (by simp) (by simp)) (OMr.f4 s3))
        have o45 : OMr m4 m5 (n + 216) := OMr.tr (OMr.f (by omega)) r3
        have tn : TN (sI m5 (n + 216) 4 (nI tt)) (n + 216) tt len B := ⟨gI_sI_eq, htt, hF.2.2.2.2.2.2.2.2.2.1, fun i hi => by rw [gI_sI_ne (Or.inl (by omega))]; exact (congrFun (o45.far (by omega) (by omega)) _).trans ((hR4.2.2.2.2.1 hne).2 i hi)⟩
        obtain ⟨qn1, qn2, qn3, qn4⟩ := (rc5.1.2.2.2.1.2 e E hE).2.2.2.1.2 i q hq
        have hqm : q ∈ E.2.2 := (List.mem_filter.mp (List.mem_of_getElem? hq)).1
        have hgb := ms_giveBy (en := e) (c := c) (p := q.2.1) rc5.1.1 tn rc5.1.2.2.2.2.1 hP hF.2.2.2.2.2.2.2.2.2.2 hF.1.2.1 hF.1.2.2.1 (b7 q hqm).2.2.1 b1 (by omega)
        refine ⟨if (xrun (wnt B P K 10) B P e E c (seg K a) [] (wnt B P K 10 e g).2).1 = 0 then xhd (xrun (wnt B P K 10) B P e E c (seg K a) [] (wnt B P K 10 e g).2).2.1 else 0, m4, m6, ?_, ?_, pl, ps, tp, tl, tt, lenT, BT, len, B, P, K, gc, _, hd, hs, _, _, F, hA, q2.od hA oR.od, hR4.run4 oR s2, hF3⟩
        · rw [nb_e c2.1, bd_e (cv_en c3 he), el_e rfl, bd_e (cv_hasC c3 hE hc), if_pos rfl, bd_e (cv_hasM c3 hE j1), if_pos rfl, nb_e hC.1.1.2.2.2.1, nb_e c2.1, bd_e k1, nb_e hC1.1.1.2.2.2.1, bd_e w1, if_pos (decide_eq_true k), nb_e hC2.1.1.2.2.2.1, bd_e (cc_code w2 hE hc hq ha2), show (0 : Int32) = nI 0 from nI_0.symm, bd_e x1, bd_e q1, nI_0]
          by_cases k' : (xrun (wnt B P K 10) B P e E c (seg K a) [] (wnt B P K 10 e g).2).1 = 0
          · rw [if_pos k', if_pos k', x4 k']
          · rw [if_neg k', if_neg k']
        · have ix : (8 : Int32) * (8 * nI tt + nI e) + nI i = nI (8 * (8 * tt + e) + i) := by rw [show (8 : Int32) = nI 8 from rfl, pk_mul, nI_add, pk_mul, nI_add]
          have ix2 : (12 : Int32) * (8 * nI tt + nI e) + nI c = nI (12 * (8 * tt + e) + c) := by rw [show (8 : Int32) = nI 8 from rfl, show (12 : Int32) = nI 12 from rfl, pk_mul, nI_add, pk_mul, nI_add]
          have cl : (nI (8 * (8 * tt + e) + i)).toNatClampNeg = 8 * (8 * tt + e) + i := nI_clamp (by omega)
          rw [bd_e (zz_constT hP hR4 hE hc), if_pos rfl, nb_e (mr_10 hR4.1), hR4.2.1.1, show (8 : Int32) * nI tt + nI e = nI (8 * tt + e) by rw [show (8 : Int32) = nI 8 from rfl, pk_mul, nI_add], mz_10 hR4.1, ib_n (by omega) (by omega), nI_clamp (n := 8 * tt + e) (by omega), nf hR4, bd_e (inT m4), if_pos rfl, bd_e r1, if_pos (decide_eq_true k), r2.1.2.1, nb_e (mr_18 rc5.1.1), rc5.1.2.1, ix, mz_18 rc5.1.1, ib_n (by omega) (by omega), nb_e (mr_19 rc5.1.1), mz_19 rc5.1.1, ib_n (by omega) (by omega), ix2, cl, qn1, qn2, bd_e hgb]
          have hctl := (fun (ops : List Ko) (hs : SG K a ops) => hs.act.2)
          rcases ha3 with ⟨k', x', v1, v2, v3⟩ | ⟨v1, v2, v3⟩
          · have hk'l := get_lt v2
            have h500 := hF.2.2.2.2.2.2.2.2.2.2
            obtain ⟨-, -, -, s, t1, t2, t3⟩ := rc5.1.2.2.2.2.1.2 k' x' v2
            rw [v3] at t1 t2 t3
            rw [← t1.seg] at t3
            rw [v1, show oA (520 * tt) (some k') = nI (520 * tt + k') from rfl, if_pos (nI_pos' (by omega)), nb_e (mr_31 rc5.1.1), mz_31 rc5.1.1, ib_n (by omega) (by omega), nI_clamp (n := 520 * tt + k') (by omega), t2]
            unfold B_X11_call_135
            rw [if_pos (nI_pos' (by omega)), nb_e (mr_32 rc5.1.1), mz_32 rc5.1.1, ib_n (by omega) (by omega), nI_clamp (n := 520 * tt + k') (by omega), t3, s1]
          · obtain ⟨s, t1, t2, t3⟩ := qn4 v2
            rw [v3] at t1 t2 t3
            rw [← t1.seg] at t3
            rw [v1, show oA (520 * tt) none = -1 from rfl, if_neg (by decide), nb_e (mr_20 rc5.1.1), mz_20 rc5.1.1, ib_n (by omega) (by omega), t2]
            unfold B_X11_call_135
            rw [if_neg (by decide), nb_e (mr_21 rc5.1.1), mz_21 rc5.1.1, ib_n (by omega) (by omega), cl, t3, s1]
      · obtain ⟨m4, q1, q2, u4⟩ := hC2.fin (v := 0) hA w2.2.2.2.2.1 hk6
        have hR4 := hR.ou (u1.tr ((w3.ou hA.1).tr u4))
        obtain ⟨m5, r1, r2, r3⟩ := mr_want hF.1 hF.2.1 hE hF.2.2.2.1 (hR4.rn hne)
        have oR : OMr m4 m5 (n + 216) := OMr.tr (OMr.f (by omega)) r3
        rw [if_neg k] at q1
        refine ⟨0, m4, m5, ?_, ?_, pl, ps, tp, tl, tt, lenT, BT, len, B, P, K, gc, _, hd, hs, _, _, F, hA, q2.od hA (OM.od oR), hR4.run oR r2.rn, hF2⟩
        · rw [nb_e c2.1, bd_e (cv_en c3 he), el_e rfl, bd_e (cv_hasC c3 hE hc), if_pos rfl, bd_e (cv_hasM c3 hE j1), if_pos rfl, nb_e hC.1.1.2.2.2.1, nb_e c2.1, bd_e k1, nb_e hC1.1.1.2.2.2.1, bd_e w1, if_neg (by simp [k]), bd_e q1]
        · rw [bd_e (zz_constT hP hR4 hE hc), if_pos rfl, nb_e (mr_10 hR4.1), hR4.2.1.1, show (8 : Int32) = nI 8 from rfl, pk_mul, nI_add, mz_10 hR4.1, ib_n (by omega) (by omega), nI_clamp (n := 8 * tt + e) (by omega), nf hR4, bd_e (inT m4), if_pos rfl, bd_e r1, if_neg (by simp [k])]
    · refine ⟨-1000001, m, m, ?_, ?_, h0⟩
      · rw [nb_e c2.1, bd_e (cv_en c3 he), el_e rfl, bd_e (cv_hasC c3 hE hc), if_pos rfl, bd_e (zc_hasM n13 j1), if_neg (by decide)]
      · rw [bd_e hi, if_pos rfl, nb_e (mr_10 hR.1), hR.2.1.1, show (8 : Int32) = nI 8 from rfl, pk_mul, nI_add, mz_10 hR.1, ib_n (by omega) (by omega), nI_clamp (by omega), nf hR, bd_e j2, if_neg (by decide)]
  · refine ⟨-1000001, m, m, ?_, by rw [bd_e hi, if_neg (by decide)], h0⟩
    rcases hx with hx | ⟨e, E, hE, hx, hy⟩
    · rw [nb_e c2.1, bd_e (zc_enum c3 hx), el_n rfl]
    · rw [nb_e c2.1, hx, bd_e (cv_en c3 (get_lt hE)), el_e rfl, bd_e (zc_hasC (c3.2.2.2.2.2.2 e E hE).2.1.2.1 hy), if_neg (by decide)]
