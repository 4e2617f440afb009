/-! ===== L2: values, clear ===== -/
theorem tih_loop {G : GG} {n N : Nat} (hz : G.2.2 (n + 213) = 12) (hN : N ≤ 12) : ∀ (fu k : Nat) (m : MM), gI m n 9 = nI N → gR m n 7 = some (n + 213) → (∀ i, i < k → gI m (n + 213) i = nI i) → N - k < fu → k ≤ N → ∃ m1, B_X10_takeInHand_20 G fu n (nI k) m = some ((), m1) ∧ Off m m1 [n + 213] ∧ m1.2 = m.2 ∧ ∀ i, i < N → gI m1 (n + 213) i = nI i := by
  intro fu
  induction fu with
  | zero => intro k m _ _ _ h; omega
  | succ fu ih =>
    intro k m h9 h7 hi hf hk
    rw [B_X10_takeInHand_20, h9]
    by_cases w : N ≤ k
    · rw [if_pos ((nI_leI (by omega) (by omega)).mpr w)]
      exact ⟨m, rfl, Off.rf, rfl, fun i h => hi i (by omega)⟩
    · rw [if_neg (fun z => w ((nI_leI (by omega) (by omega)).mp z)), nb_e h7, hz, ib_n (by omega) (by omega), nI_clamp (by omega), nI_1]
      obtain ⟨m1, e1, e2, e3, e4⟩ := ih (k + 1) (sI m (n + 213) k (nI k)) (by rw [gI_sI_ne (Or.inl (by omega))]; exact h9) h7 (fun i h => by
        by_cases z : i = k
        · rw [z, gI_sI_eq]
        · rw [gI_sI_ne (Or.inr z)]; exact hi i (by omega)) (by omega) (by omega)
      exact ⟨m1, e1, Off.sI.tr1 e2, e3, e4⟩
theorem rg_loop {G : GG} {d N : Nat} (hN : N ≤ 12) : ∀ (fu k : Nat) (m : MM), LM G m d → gI m d 71 = nI N → (∀ i, i < k → gI m (d + 52) i = nI i) → N - k < fu → k ≤ N → ∃ m1, B_X11_values_52 G fu d (nI k) m = some (nI N, m1) ∧ OM m m1 d [] [52] ∧ ∀ i, i < N → gI m1 (d + 52) i = nI i := by
  intro fu
  induction fu with
  | zero => intro k m _ _ _ h; omega
  | succ fu ih =>
    intro k m hL h9 hi hf hk
    rw [B_X11_values_52, h9]
    by_cases w : N ≤ k
    · rw [if_pos ((nI_leI (by omega) (by omega)).mpr w)]
      exact ⟨m, rfl, OM.rf, fun i h => hi i (by omega)⟩
    · rw [if_neg (fun z => w ((nI_leI (by omega) (by omega)).mp z)), nb_e (mr_73 hL), mz_73 hL, ib_n (by omega) (by omega), nI_clamp (by omega), nI_1]
      have o : OM m (sI m (d + 52) k (nI k)) d [] [52] := OM.a (by omega)
      obtain ⟨m1, e1, e2, e3⟩ := ih (k + 1) (sI m (d + 52) k (nI k)) (hL.kept o) (by rw [gI_sI_ne (Or.inl (by omega))]; exact h9) (fun i h => by
        by_cases z : i = k
        · rw [z, gI_sI_eq]
        · rw [gI_sI_ne (Or.inr z)]; exact hi i (by omega)) (by omega) (by omega)
      exact ⟨m1, e1, o.tr1 e2, e3⟩
theorem ZC.hnd {G : GG} {m m1 : MM} {n pl ps tp tl lenT : Nat} {BT : Nat → Int32} {len : Nat} {B : Nat → Int32} {P : List Enm} {K : List Ko} {gc : Nat → Nat → Nat → Int32} {g : Sg} {he he' : Nat} {hs hs' : List Nat} {ca : Nat} {fc : Int32} {F : Nat × Nat} (hA : ZA n pl ps tp tl) (h : ZC G m n pl ps tp tl lenT BT len B P K gc g he hs ca fc F) (o : Off m m1 [n, n + 213]) (o2 : m1.2 = m.2) (oj : ∀ j, j ≠ 8 → j ≠ 9 → gI m1 n j = gI m n j) (k1 : gI m1 n 8 = nI he') (k2 : gI m1 n 9 = nI hs'.length) (k3 : ∀ i c, hs'[i]? = some c → gI m1 (n + 213) i = nI c) : ZC G m1 n pl ps tp tl lenT BT len B P K gc g he' hs' ca fc F ∧ OU m m1 (n + 216) := by
  obtain ⟨h1, ⟨h2, h3, h4⟩, h5, h6, h7, h8, ⟨h9, h10, h11⟩, ⟨h12, h13⟩, h14, h15⟩ := h
  obtain ⟨z1, z2, z3, z4, z5, z6⟩ := hA
  have hP8 := h5.2.2.2.2.2.1.1
  unfold PN at z1
  unfold TT at z4 z5
  have R : ∀ a j, gR m1 a j = gR m a j := fun a j => by show m1.2.2 a j = m.2.2 a j; rw [o2]
  have I : ∀ a, a ≠ n → a ≠ n + 213 → ∀ j, gI m1 a j = gI m a j := fun a x y j => o.I (by simp; omega) j
  exact ⟨⟨h1.eq (by rw [o2]), ⟨by rw [R]; exact h2, by rw [R]; exact h3, by rw [R]; exact h4⟩, h5.off o (by simp; omega), h6.kept o (by simp; omega) (by simp; omega), h7.eq (fun e he => ⟨(o _ (by simp; omega)).1, (o _ (by simp; omega)).1, (o _ (by simp; omega)).1⟩), ⟨by rw [I _ (by omega) (by omega)]; exact h8.1, h8.2.1, fun k v hk => by rw [I _ (by omega) (by omega)]; exact h8.2.2 k v hk⟩, ⟨k1, k2, k3⟩, ⟨by rw [oj _ (by omega) (by omega)]; exact h12, by rw [oj _ (by omega) (by omega)]; exact h13⟩, by rw [I _ (by omega) (by omega)]; exact h14, by rw [I _ (by omega) (by omega)]; exact h15⟩, fun a ha => o a (by simp; omega)⟩
theorem rng_get {N i c : Nat} (h : (List.range N)[i]? = some c) : c = i ∧ i < N := by
  have hl := get_lt h
  rw [List.length_range] at hl
  rw [List.getElem?_range hl] at h
  cases h
  exact ⟨rfl, hl⟩
theorem op_values {G : GG} {n : Nat} {m : MM} (h : INV G m n) (x : Int32) : BOTH G n m (M_X10_values G n x) (M_X11_values G (n + 216) x) := by
  have h0 := h
  obtain ⟨pl, ps, tp, tl, tt, lenT, BT, len, B, P, K, gc, g, hd, hs, ca, fc, F, hA, hC, hR, hF⟩ := h
  have c3 := hC.2.2.1
  have c2 := hC.2.1
  have hP := c3.2.2.2.2.2.1
  unfold BOTH M_X10_values M_X11_values
  rcases zz_enum hP hR x with ⟨e, E, hE, hx, hi⟩ | ⟨hx, hi⟩
  · obtain ⟨b1, b2, b3, b4, b5, b6, b7⟩ := pb_en hP hE
    have hne : P ≠ [] := fun z => by rw [z] at hE; simp at hE
    have he := get_lt hE
    have htt := hR.2.1.2
    subst hx
    have hk6 := wnt_k (B := B) (P := P) (K := K) 10 e g
    obtain ⟨m1, k1, hC1, cx, u1⟩ := hC.begin hA
    obtain ⟨m2, w1, w2, w3, w4⟩ := want_c hA.1 hA.2.2.2.2.1 hF.1 hF.2.2.2.1 hE cx
    have hC2 := hC1.run hA w3 w2
    have hF2 := hF.run (g' := (wnt B P K 10 e g).2) (wnt_gs 10 e g) (wnt_n 10 e g) hk6
    have n12 := (w2.1.2.2.2.2.2.2 e E hE).2.1.2.1
    have hN1 := hA.1
    unfold PN at hN1
    by_cases k : (wnt B P K 10 e g).1 = 0
    · have g1 := hF2.st1 he (w4 k)
      have h7 := hC2.1.1.2.2.2.2
      have hz := hC2.1.2.1.2.2.2.2
      obtain ⟨m3, e1, e2, e3, e4⟩ := tih_loop (G := G) (n := n) (N := E.2.1.length) hz b3 FU 0 (sI (sI m2 n 8 (nI e)) n 9 (nI E.2.1.length)) gI_sI_eq h7 (fun i h => by omega) (by unfold FU; omega) (by omega)
      have o : Off m2 m3 [n, n + 213] := Off.tr1 (Off.tr1 (Off.sI.mono (by simp)) (Off.sI.mono (by simp))) (e2.mono (by simp))
      obtain ⟨hC3, u3⟩ := hC2.hnd (he' := e) (hs' := List.range E.2.1.length) hA o e3 (fun j a b => by rw [e2.I (by simp) j, gI_sI_ne (Or.inr b), gI_sI_ne (Or.inr a)]) (by rw [e2.I (by simp) 8, gI_sI_ne (Or.inr (by omega)), gI_sI_eq]) (by rw [e2.I (by simp) 9, gI_sI_eq, List.length_range]) (fun i c hc => by
        obtain ⟨q1, q2⟩ := rng_get hc
        rw [q1]
        exact e4 i q2)
      have g4 : gI m3 (n + 210) 4 = nI 0 := by rw [o.I (by simp) 4, ← k]; exact w2.2.2.2.2.1
      have n12' : gI m3 (pl + 4 + 12 * e) 12 = nI E.2.1.length := by rw [o.I (by simp; omega) 12]; exact n12
      obtain ⟨m4, q1, q2, u4⟩ := hC3.fin (k := 0) (v := nI E.2.1.length) hA g4 (by omega)
      have hR4 := hR.ou (u1.tr ((w3.ou hA.1).tr (u3.tr u4)))
      obtain ⟨m5, r1, r2, r3⟩ := mr_want hF.1 hF.2.1 hE hF.2.2.2.1 (hR4.rn hne)
      rw [k, if_pos rfl] at r2
      have oR : OMr m4 m5 (n + 216) := OMr.tr (OMr.f (by omega)) r3
      have hR5 := hR4.run oR r2.rn
      have o6 : OM m5 (sI (sI m5 (n + 216) 72 (nI e)) (n + 216) 71 (nI E.2.1.length)) (n + 216) [71, 72] [52] := OM.tr1 (OM.f.mono (by simp) (by simp)) (OM.f.mono (by simp) (by simp))
      obtain ⟨m6, s1, s2, s3⟩ := rg_loop (G := G) (d := n + 216) b3 FU 0 (sI (sI m5 (n + 216) 72 (nI e)) (n + 216) 71 (nI E.2.1.length)) (hR5.1.kept o6) gI_sI_eq (fun i h => by omega) (by unfold FU; omega) (by omega)
      have o7 : OM m5 m6 (n + 216) [71, 72] [52] := o6.tr1 (s2.mono (by simp) (by simp))
      rw [if_pos rfl] at q1 q2
      obtain ⟨t1, t2, t3, t4, t5, t6, t7, t8, t9, t10⟩ := id hR5
      have fa : ∀ p, 0 < p → p ≠ 52 → m6.1 (n + 216 + p) = m5.1 (n + 216 + p) := fun p hp hq => o7.2.2.1 _ (by omega) (fun x hx => by simp at hx; omega)
      have fl : ∀ p, p ≠ 71 → p ≠ 72 → gI m6 (n + 216) p = gI m5 (n + 216) p := fun p hq hp => o7.I (by simp; omega)
      have hR6 : ZR G m6 (n + 216) tt lenT BT len B P K (wnt B P K 10 e g).2 e (List.range E.2.1.length) 0 fc F := hR5.mk o7 (by simp) (fun i a b => by simp; omega) ⟨by rw [fl _ (by omega) (by omega)]; exact t3.1, fun i hi => (congrFun (fa _ (by omega) (by omega)) _).trans (t3.2 i hi)⟩ (t6.kept (fun i _ _ => fa _ (by omega) (by omega))) (t7.kept (fl _ (by omega) (by omega)) (fa _ (by omega) (by omega))) ⟨by rw [fl _ (by omega) (by omega)]; exact t8.1, by rw [fl _ (by omega) (by omega)]; exact t8.2⟩ ⟨by rw [s2.I (by simp), gI_sI_eq, List.length_range], fun _ => by rw [s2.I (by simp), gI_sI_ne (Or.inr (by omega)), gI_sI_eq], fun i c hc => by
        obtain ⟨v1, v2⟩ := rng_get hc
        rw [v1]
        exact s3 i v2⟩ ⟨by rw [fl _ (by omega) (by omega)]; exact t10.1, by rw [fl _ (by omega) (by omega)]; exact t10.2⟩
      have hF3 : ZF len B P K gc (wnt B P K 10 e g).2 e (List.range E.2.1.length) 0 F := by
        obtain ⟨f1, f2, f3, f4, f5, f6, f7, f8, f9, f10⟩ := hF2
        exact ⟨f1, f2, f3, f4, f5, ⟨by rw [List.length_range]; omega, b1, fun _ => ⟨E, hE, g1, fun c hc => List.mem_range.mp hc⟩⟩, by omega, f8, f9, f10⟩
      refine ⟨nI E.2.1.length, m4, m6, ?_, ?_, pl, ps, tp, tl, tt, lenT, BT, len, B, P, K, gc, (wnt B P K 10 e g).2, e, List.range E.2.1.length, 0, fc, F, hA, (q2.od hA (OM.od oR)).od hA o7.od, hR6, hF3⟩
      · have et : M_X10_takeInHand G n (nI e) (nI E.2.1.length) m2 = some ((), m3) := by
          unfold M_X10_takeInHand
          rw [nb_e (show gR (sI m2 n 8 (nI e)) n 7 = some (n + 213) from h7), hz, if_neg (fun z => absurd ((nI_ltI (by omega) (by omega)).mp z) (by omega))]
          rw [nI_0] at e1
          exact e1
        rw [nb_e c2.1, bd_e (cv_en c3 he), el_e rfl, nb_e hC.1.1.2.2.2.1, nb_e c2.1, bd_e k1, nb_e hC1.1.1.2.2.2.1, bd_e w1, if_pos (decide_eq_true k), n12, bd_e et, n12', bd_e q1]
      · have n6 : gI (sI m5 (n + 216) 72 (nI e)) (n + 216 + 6) (8 * tt + e) = nI E.2.1.length := by rw [gI_sI_ne (Or.inl (by omega))]; exact ((r2.1.2.2.2.1).2 e E hE).2.2.1.1
        have n3 : gI (sI m5 (n + 216) 72 (nI e)) (n + 216) 3 = nI tt := by rw [gI_sI_ne (Or.inr (by omega))]; exact r2.1.2.1
        rw [nI_0] at s1
        rw [bd_e (zz_enumT hP hR4 he), if_pos rfl, bd_e r1, if_pos (decide_eq_true k), nb_e (show gR (sI m5 (n + 216) 72 (nI e)) (n + 216) 9 = some (n + 216 + 6) from mr_9 hR5.1), n3, show (8 : Int32) = nI 8 from rfl, pk_mul, nI_add, mz_9 hR5.1, ib_n (by omega) (by omega), nI_clamp (by omega), n6, s1]
    · obtain ⟨m4, q1, q2, u4⟩ := hC2.fin (v := nI E.2.1.length) hA w2.2.2.2.2.1 hk6
      have hR4 := hR.ou (u1.tr ((w3.ou hA.1).tr u4))
      obtain ⟨m5, r1, r2, r3⟩ := mr_want hF.1 hF.2.1 hE hF.2.2.2.1 (hR4.rn hne)
      have oR : OMr m4 m5 (n + 216) := OMr.tr (OMr.f (by omega)) r3
      rw [if_neg k] at q1
      refine ⟨0, m4, m5, ?_, ?_, pl, ps, tp, tl, tt, lenT, BT, len, B, P, K, gc, _, hd, hs, _, _, F, hA, q2.od hA (OM.od oR), hR4.run oR r2.rn, hF2⟩
      · rw [nb_e c2.1, bd_e (cv_en c3 he), el_e rfl, nb_e hC.1.1.2.2.2.1, nb_e c2.1, bd_e k1, nb_e hC1.1.1.2.2.2.1, bd_e w1, if_neg (by simp [k]), n12, bd_e q1]
      · rw [bd_e (zz_enumT hP hR4 he), if_pos rfl, bd_e r1, if_neg (by simp [k])]
  · refine ⟨-1000001, m, m, ?_, by rw [bd_e hi, if_neg (by decide)], h0⟩
    rw [nb_e c2.1, bd_e (zc_enum c3 hx), el_n rfl]
/-! nothing loaded -/
theorem okp_nil {B : Nat → Int32} : OKP B [] [] := ⟨⟨by simp, fun E h => by simp at h⟩, fun q h => by simp at h, fun x h => by simp [gvi] at h, fun e E h => by simp at h, fun x h => by
  rcases h with ⟨e, E, h, -⟩ | ⟨g, x, h, -⟩ | ⟨q, h, -⟩
  · simp at h
  · simp [gvi] at h
  · simp [aK] at h, by simp⟩
def gz : Sg := (fun _ => 0, fun _ => 0, fun _ _ => 0, fun _ _ => 0, [])
theorem zf_nil {len he : Nat} {B : Nat → Int32} (hT : Tx B len) (hh : he < 8) : ZF len B [] [] (fun _ _ _ => -1) gz he [] 0 (0, 0) := ⟨okp_nil, by simp [aK], fun e c i => Or.inl ⟨rfl, fun x hx => by simp [gvi] at hx⟩, fun e E h => by simp at h, fun e h => by simp at h, ⟨by simp, hh, fun z => absurd rfl z⟩, by omega, by decide, by decide, hT, by simp [gvi]⟩
theorem op_clear {G : GG} {n : Nat} {m : MM} (h : INV G m n) : BOTH G n m (M_X10_clear G n) (M_X11_clear G (n + 216)) := by
  obtain ⟨pl, ps, tp, tl, tt, lenT, BT, len, B, P, K, gc, g, hd, hs, ca, fc, F, hA, hC, hR, hF⟩ := h
  have hA0 := hA
  obtain ⟨c1, c2, c3, c4, c5, c6, c7, c8, c9, c10⟩ := hC
  obtain ⟨z1, z2, z3, z4, z5, z6⟩ := hA
  have hpl := c1.2.2.2.1 pl z1
  unfold PN at z1
  unfold TT at z4 z5
  unfold BOTH
  -- the class's memory behind it
  obtain ⟨m1, em⟩ : ∃ m1, sI (sI (sI (sI (sI (sI (sI (sI (sI (sR m pl 5 (some tl)) pl 3 0) pl 4 0) tp 1 0) (n + 203) 0 0) (n + 203) 1 0) (n + 210) 2 0) n 9 0) n 10 0) n 11 0 = m1 := ⟨_, rfl⟩
  have R : ∀ a j, gR m1 a j = gR m a j := fun a j => by
    rw [← em]
    show gR (sR m pl 5 (some tl)) a j = gR m a j
    rw [gR_sR]
    by_cases w : a = pl ∧ j = 5
    · rw [if_pos w, w.1, w.2, c3.2.1]
    · rw [if_neg w]
  have L : m1.2.1 = m.2.1 := by rw [← em]; rfl
  have I : ∀ a j, ¬ (a = pl ∧ (j = 3 ∨ j = 4)) → ¬ (a = tp ∧ j = 1) → ¬ (a = n + 203 ∧ j ≤ 1) → ¬ (a = n + 210 ∧ j = 2) → ¬ (a = n ∧ (j = 9 ∨ j = 10 ∨ j = 11)) → gI m1 a j = gI m a j := fun a j x1 x2 x3 x4 x5 => by
    rw [← em, gI_sI_ne (by omega), gI_sI_ne (by omega), gI_sI_ne (by omega), gI_sI_ne (by omega), gI_sI_ne (by omega), gI_sI_ne (by omega), gI_sI_ne (by omega), gI_sI_ne (by omega), gI_sI_ne (by omega)]
    rfl
  have hT : TP G m1 tl len B := by
    obtain ⟨t1, t2, t3, t4, t5, t6⟩ := c3.2.2.1
    exact ⟨by rw [R]; exact t1, t2, by rw [I _ _ (by omega) (by omega) (by omega) (by omega) (by omega)]; exact t3, t4, fun i hi => by rw [I _ _ (by omega) (by omega) (by omega) (by omega) (by omega)]; exact t5 i hi, t6⟩
  have g3 : gI m1 pl 3 = nI 0 := by rw [← em, gI_sI_ne (by omega), gI_sI_ne (by omega), gI_sI_ne (by omega), gI_sI_ne (by omega), gI_sI_ne (by omega), gI_sI_ne (by omega), gI_sI_ne (by omega), gI_sI_ne (by omega), gI_sI_eq]; rfl
  have g4 : gI m1 pl 4 = nI 0 := by rw [← em, gI_sI_ne (by omega), gI_sI_ne (by omega), gI_sI_ne (by omega), gI_sI_ne (by omega), gI_sI_ne (by omega), gI_sI_ne (by omega), gI_sI_ne (by omega), gI_sI_eq]; rfl
  have gt : gI m1 tp 1 = nI 0 := by rw [← em, gI_sI_ne (by omega), gI_sI_ne (by omega), gI_sI_ne (by omega), gI_sI_ne (by omega), gI_sI_ne (by omega), gI_sI_ne (by omega), gI_sI_eq]; rfl
  have gf0 : gI m1 (n + 203) 0 = nI 0 := by rw [← em, gI_sI_ne (by omega), gI_sI_ne (by omega), gI_sI_ne (by omega), gI_sI_ne (by omega), gI_sI_ne (by omega), gI_sI_eq]; rfl
  have gf1 : gI m1 (n + 203) 1 = nI 0 := by rw [← em, gI_sI_ne (by omega), gI_sI_ne (by omega), gI_sI_ne (by omega), gI_sI_ne (by omega), gI_sI_eq]; rfl
  have gtr : gI m1 (n + 210) 2 = nI 0 := by rw [← em, gI_sI_ne (by omega), gI_sI_ne (by omega), gI_sI_ne (by omega), gI_sI_eq]; rfl
  have g9 : gI m1 n 9 = nI 0 := by rw [← em, gI_sI_ne (by omega), gI_sI_ne (by omega), gI_sI_eq]; rfl
  have g10 : gI m1 n 10 = nI 0 := by rw [← em, gI_sI_ne (by omega), gI_sI_eq]; rfl
  have g11 : gI m1 n 11 = 0 := by rw [← em, gI_sI_eq]
  have hLY : LY G m1 n := c1.kept (fun a j _ => R a j)
  have hpl1 := hLY.2.2.2.1 pl hA0.1
  have hC1 : ZC G m1 n pl ps tp tl 0 (fun _ => -1) len B [] [] (fun _ _ _ => -1) gz hd [] 0 0 (0, 0) := ⟨hLY, ⟨by rw [R]; exact c2.1, by rw [R]; exact c2.2.1, by rw [R]; exact c2.2.2⟩, ⟨hpl1.1, by rw [R]; exact c3.2.1, hT, ⟨hpl1.2.1, hpl1.2.2, g4, by simp, fun j v hj => by simp at hj⟩, g3, ⟨by simp, fun E h => by simp at h⟩, fun e E h => by simp at h⟩, ⟨by rw [R]; exact c4.1, c4.2.1, gt, by omega, fun i hi => by omega, fun i _ => rfl⟩, fun e E h => by simp at h, ⟨gtr, by show 0 ≤ 200; omega, fun k v hk => by simp [gz] at hk⟩, ⟨by rw [I _ _ (by omega) (by omega) (by omega) (by omega) (by omega)]; exact c7.1, g9, fun i c hc => by simp at hc⟩, ⟨g10, g11⟩, gf0, gf1⟩
  have u1 : OU m m1 (n + 216) := fun a ha => by
    rw [← em]
    refine ⟨?_, rfl, ?_⟩
    · rw [sI_ne (by omega), sI_ne (by omega), sI_ne (by omega), sI_ne (by omega), sI_ne (by omega), sI_ne (by omega), sI_ne (by omega), sI_ne (by omega), sI_ne (by omega)]
      rfl
    · exact (sR_off (by omega)).2.2
  have hR1 := hR.ou u1
  obtain ⟨r1, ⟨r2, htt⟩, r3, r4, r5, r6, r7, r8, r9, r10, r11⟩ := hR1
  obtain ⟨m2, em2⟩ : ∃ m2, sI (sI (sI (sI (sI (sI (sI (sI m1 (n + 216 + 3) tt 0) (n + 216) 1 0) (n + 216) 54 0) (n + 216) 55 (-1000009)) (n + 216) 61 0) (n + 216) 71 0) (n + 216) 62 0) (n + 216) 63 0 = m2 := ⟨_, rfl⟩
  have o : OM m1 m2 (n + 216) [1, 54, 55, 61, 62, 63, 71] [3] := by
    rw [← em2]
    exact OM.tr1 ((OM.a (by omega)).mono (by simp) (by simp)) (OM.tr1 (OM.f.mono (by simp) (by simp)) (OM.tr1 (OM.f.mono (by simp) (by simp)) (OM.tr1 (OM.f.mono (by simp) (by simp)) (OM.tr1 (OM.f.mono (by simp) (by simp)) (OM.tr1 (OM.f.mono (by simp) (by simp)) (OM.tr1 (OM.f.mono (by simp) (by simp)) (OM.f.mono (by simp) (by simp))))))))
  refine ⟨nI P.length, m1, m2, ?_, ?_, pl, ps, tp, tl, tt, 0, fun _ => -1, len, B, [], [], fun _ _ _ => -1, gz, hd, [], 0, 0, (0, 0), hA0, hC1.od hA0 o.od, ⟨r1.kept o, ⟨by rw [o.I (by simp)]; exact r2, htt⟩, ⟨?_, fun i hi => by omega⟩, ?_, fun z => absurd rfl z, fun e E h => by simp at h, ⟨?_, by show 0 ≤ 200; omega, fun k v hk => by simp [gz] at hk⟩, ⟨?_, ?_⟩, ⟨?_, fun z => absurd rfl z, fun i c hc => by simp at hc⟩, ?_, ?_⟩, zf_nil hF.2.2.2.2.2.2.2.2.2.1 hF.2.2.2.2.2.1.2.1⟩
  · unfold M_X10_clear M_X6_begin M_X3_forget
    rw [nb_e c2.1, nb_e c3.2.1]
    rw [bd_e (r := ()) (m1 := sI (sI (sR m pl 5 (some tl)) pl 3 0) pl 4 0) rfl]
    rw [nb_e (show gR (sI (sI (sR m pl 5 (some tl)) pl 3 0) pl 4 0) n 2 = some tp by show gR (sR m pl 5 (some tl)) n 2 = _; rw [gR_sR, if_neg (by omega)]; exact c2.2.2)]
    rw [nb_e (show gR (sI (sI (sI (sR m pl 5 (some tl)) pl 3 0) pl 4 0) tp 1 0) n 3 = some (n + 203) by show gR (sR m pl 5 (some tl)) n 3 = _; rw [gR_sR, if_neg (by omega)]; exact c1.1.1)]
    rw [bd_e (r := ()) (m1 := sI (sI (sI (sI (sI (sR m pl 5 (some tl)) pl 3 0) pl 4 0) tp 1 0) (n + 203) 0 0) (n + 203) 1 0) rfl]
    rw [nb_e (show gR (sI (sI (sI (sI (sI (sR m pl 5 (some tl)) pl 3 0) pl 4 0) tp 1 0) (n + 203) 0 0) (n + 203) 1 0) n 6 = some (n + 210) by show gR (sR m pl 5 (some tl)) n 6 = _; rw [gR_sR, if_neg (by omega)]; exact c1.1.2.2.2.1), em, c3.2.2.2.2.1]
  · unfold M_X11_clear
    rw [nb_e (mr_6 r1), mz_6 r1, r2, ib_n (by omega) (by omega), ib_n (by omega) (by omega), nI_clamp (by omega), em2, r4]
  · rw [← em2, gI_sI_ne (by omega), gI_sI_ne (by omega), gI_sI_ne (by omega), gI_sI_ne (by omega), gI_sI_ne (by omega), gI_sI_ne (by omega), gI_sI_eq]; rfl
  · rw [← em2, gI_sI_ne (by omega), gI_sI_ne (by omega), gI_sI_ne (by omega), gI_sI_ne (by omega), gI_sI_ne (by omega), gI_sI_ne (by omega), gI_sI_ne (by omega), gI_sI_eq]; rfl
  · rw [← em2, gI_sI_ne (by omega), gI_sI_ne (by omega), gI_sI_ne (by omega), gI_sI_eq]; rfl
  · rw [← em2, gI_sI_ne (by omega), gI_sI_eq]; rfl
  · rw [← em2, gI_sI_eq]
  · rw [← em2, gI_sI_ne (by omega), gI_sI_ne (by omega), gI_sI_eq]; rfl
  · rw [← em2, gI_sI_ne (by omega), gI_sI_ne (by omega), gI_sI_ne (by omega), gI_sI_ne (by omega), gI_sI_ne (by omega), gI_sI_eq]; rfl
  · rw [← em2, gI_sI_ne (by omega), gI_sI_ne (by omega), gI_sI_ne (by omega), gI_sI_ne (by omega), gI_sI_eq]; rfl
