/-! ===== L2: named ===== -/
/-- the first constant that bears the tape's name -/
def nmF (BT B : Nat → Int32) (lenT : Nat) : List Con → Nat → Option Nat
  | [], _ => none
  | q :: l, c => if nl B q.1 = lenT ∧ sm BT B 0 q.1 lenT = true then some c else nmF BT B lenT l (c + 1)
theorem lf_loop {G : GG} {m : MM} {n pl tp tl lenT len e : Nat} {BT B : Nat → Int32} {P : List Enm} {C : List Int64} {gc : Nat → Nat → Nat → Int32} {E : Enm} (hV : CV G m pl tl len B P C gc) (hE : P[e]? = some E) (hT : TP G m tp lenT BT) (h0 : gR m n 0 = some pl) (h2 : gR m n 2 = some tp) (h6 : gR m n 6 = some (n + 210)) : ∀ (l : List Con) (fu c : Nat), E.2.1.drop c = l → c + l.length = E.2.1.length → l.length < fu → B_X10_lookFor_23 G fu n (pl + 4 + 12 * e) (nI c) m = match nmF BT B lenT l c with
      | some k => some (nI k, m)
      | none => some (0, sI m (n + 210) 4 (nI 3)) := by
  have hP := hV.2.2.2.2.2.1
  obtain ⟨b1, b2, b3, b4, b5, b6, b7⟩ := pb_en hP hE
  have he := get_lt hE
  have hEC := (hV.2.2.2.2.2.2 e E hE).2.1
  have hl0 := cv_le hV he 0 (by omega)
  have hz0 : G.2.2 (pl + 4 + 12 * e + 1 + 0) = 12 := hl0.2
  have hlT := hT.2.2.2.1
  intro l
  induction l with
  | nil =>
    intro fu c hd hc hf
    cases fu with
    | zero => omega
    | succ fu =>
    rw [List.length_nil] at hc
    rw [B_X10_lookFor_23, hEC.2.1, if_pos ((nI_leI (by omega) (by omega)).mpr (by omega)), nb_e h6]
    rfl
  | cons q l ih =>
    intro fu c hd hc hf
    cases fu with
    | zero => omega
    | succ fu =>
    rw [List.length_cons] at hc hf
    have hq : E.2.1[c]? = some q := by
      have := congrArg (fun l => l[0]?) hd
      simpa using this
    have hqp := (b6 q (List.mem_of_getElem? hq)).1
    have hnl := nl_le hV.2.2.1.tx q.1
    have hl2 := hV.2.2.1.2.2.2.1
    rw [B_X10_lookFor_23, hEC.2.1, if_neg (fun z => absurd ((nI_leI (by omega) (by omega)).mp z) (by omega)), nb_e hl0.1, hz0, ib_n (by omega) (by omega), nb_e h0, nb_e hV.2.1, nI_clamp (by omega), show pl + 4 + 12 * e + 1 + 0 = pl + 4 + 12 * e + 1 by omega, (hEC.2.2.2.2.2.2.1 c q hq).1, bd_e (tp_nameLength hV.2.2.1 (by omega)), nb_e h2, hT.2.2.1, nmF]
    by_cases w : nl B q.1 = lenT
    · rw [if_pos (by rw [w]), nb_e h0, nb_e hV.2.1]
      have hs := tp_same hT hV.2.2.1 (p := 0) (q := q.1) (n := lenT) (by omega) (by omega) (by omega)
      rw [nI_0] at hs
      rw [bd_e hs]
      by_cases u : sm BT B 0 q.1 lenT = true
      · rw [if_pos u, if_pos ⟨w, u⟩]
      · rw [if_neg u, if_neg (fun z => u z.2), nI_1]
        exact ih fu (c + 1) (by rw [← List.drop_drop, hd]; rfl) (by omega) (by omega)
    · rw [if_neg (fun z => w ((nI_eq (by omega) (by omega)).mp z)), if_neg (fun z => w z.1), nI_1]
      exact ih fu (c + 1) (by rw [← List.drop_drop, hd]; rfl) (by omega) (by omega)
theorem rn_105 {G : GG} {m : MM} {d tt lenT p kx : Nat} {c : Int32} {x1 : Int32} {BT B : Nat → Int32} {k50 : Nat → Int32 → Int32 → Int32 → MM → Option (Int32 × MM)} (hL : LM G m d) (h3 : gI m d 3 = nI tt) (htt : tt ≤ 1) (hk : kx < 192) (hp : gI m (d + 11) kx = nI p) (hpl : p + lenT ≤ 2000) (hlT : lenT ≤ 2000) (hB : ∀ i, i < lenT → gI m (d + 2) (2000 * tt + (p + i)) = B (p + i)) (hT : ∀ i, i < lenT → gI m (d + 1) i = BT i) : ∀ (fu j : Nat), lenT - j + 1 < fu → j ≤ lenT → B_X11_named_105 G k50 fu d x1 (nI lenT) c (nI kx) 1 (nI j) m = if sm BT B j (p + j) (lenT - j) = true then some (c, m) else k50 d x1 (nI lenT) (c + 1) m := by
  intro fu
  induction fu with
  | zero => intro j h; omega
  | succ fu ih =>
    intro j hf hj
    rw [B_X11_named_105]
    by_cases w : lenT ≤ j
    · rw [if_pos ((nI_leI (by omega) (by omega)).mpr w), show lenT - j = 0 by omega, sm, if_pos rfl]
      unfold B_X11_named_163
      rw [if_neg (by decide)]
    · rw [if_neg (fun z => w ((nI_leI (by omega) (by omega)).mp z)), if_neg (by decide), nb_e (mr_2 hL), nb_e (mr_14 hL), mz_14 hL, ib_n (by omega) (by omega), h3, nI_clamp (n := kx) (by omega), hp, show (2000 : Int32) = nI 2000 from rfl, pk_mul, nI_add, nI_add, mz_2 hL, ib_n (by omega) (by omega), nb_e (mr_0 hL), mz_0 hL, ib_n (by omega) (by omega), nI_clamp (by omega), nI_clamp (by omega), show 2000 * tt + p + j = 2000 * tt + (p + j) by omega, hB j (by omega), hT j (by omega), nI_1, show lenT - j = (lenT - (j + 1)) + 1 by omega, sm]
      by_cases u : B (p + j) = BT j
      · rw [if_pos u, if_pos (show BT j = B (p + j) from u.symm), ih (j + 1) (by omega) (by omega)]
        rfl
      · rw [if_neg u, if_neg (show ¬ BT j = B (p + j) from fun z => u z.symm), if_neg (by decide)]
        cases fu with
        | zero => omega
        | succ fu =>
        rw [B_X11_named_105]
        have fin1 : B_X11_named_163 G k50 d x1 (nI lenT) c 0 m = k50 d x1 (nI lenT) (c + 1) m := by
          unfold B_X11_named_163
          rw [if_pos rfl]
        by_cases v : nI lenT ≤ nI (j + 1)
        · rw [if_pos v, fin1]
        · rw [if_neg v, if_pos rfl, fin1]
theorem rn_50 {G : GG} {m : MM} {d tt lenT len e : Nat} {BT B : Nat → Int32} {K : List Ko} {P : List Enm} {E : Enm} {g : Sg} {fc : Int32} (hP : PB P) (h : RC G m d tt B K P g [] [] 0 fc) (hE : P[e]? = some E) (hX : Tx B len) (hB : ∀ i, i < len → gI m (d + 2) (2000 * tt + i) = B i) (hlT : lenT ≤ 2000) (hT : ∀ i, i < lenT → gI m (d + 1) i = BT i) : ∀ (l : List Con) (fu c : Nat), E.2.1.drop c = l → c + l.length = E.2.1.length → l.length < fu → ∃ m1, B_X11_named_50 G fu d (nI e) (nI lenT) (nI c) m = some ((match nmF BT B lenT l c with
      | some k => nI k
      | none => 0), m1) ∧ OMr m m1 d ∧ (match nmF BT B lenT l c with
      | some _ => m1 = m
      | none => RC G m1 d tt B K P g [] [] 3 (fc + 1)) := by
  obtain ⟨b1, b2, b3, b4, b5, b6, b7⟩ := pb_en hP hE
  have hL := h.1.1
  have htt := h.1.2.2.1
  obtain ⟨n1, -, n3⟩ := h.num hE
  have hl2 := hX.1
  intro l
  induction l with
  | nil =>
    intro fu c hd hc hf
    cases fu with
    | zero => omega
    | succ fu =>
    rw [List.length_nil] at hc
    obtain ⟨m1, e1, e2, e3⟩ := mr_fails (k := 3) hP h (fun z hz => by simp at hz) (by simp)
    rw [B_X11_named_50, nb_e (mr_9 hL), h.1.2.1, show (8 : Int32) = nI 8 from rfl, pk_mul, nI_add, mz_9 hL, ib_n (by omega) (by omega), nI_clamp (by omega), n1, if_pos ((nI_leI (by omega) (by omega)).mpr (by omega)), show (3 : Int32) = nI 3 from rfl, bd_e e1]
    exact ⟨m1, rfl, e3, e2⟩
  | cons q l ih =>
    intro fu c hd hc hf
    cases fu with
    | zero => omega
    | succ fu =>
    rw [List.length_cons] at hc hf
    have hq : E.2.1[c]? = some q := by
      have := congrArg (fun l => l[0]?) hd
      simpa using this
    obtain ⟨q1, q2, -⟩ := n3.2.2.1.2 c q hq
    have hnl := nl_le hX q.1
    have hqp := (b6 q (List.mem_of_getElem? hq)).1
    rw [B_X11_named_50, nb_e (mr_9 hL), h.1.2.1, show (8 : Int32) = nI 8 from rfl, pk_mul, nI_add, mz_9 hL, ib_n (by omega) (by omega), nI_clamp (by omega), n1, if_neg (fun z => absurd ((nI_leI (by omega) (by omega)).mp z) (by omega)), nb_e (mr_15 hL), show (12 : Int32) = nI 12 from rfl, pk_mul, nI_add, mz_15 hL, ib_n (by omega) (by omega), nI_clamp (by omega), q2, nmF]
    have rest := ih fu (c + 1) (by rw [← List.drop_drop, hd]; rfl) (by omega) (by omega)
    by_cases w : nl B q.1 = lenT
    · rw [if_pos (by rw [w])]
      have hpl : q.1 + lenT ≤ 2000 ∨ lenT = 0 := by omega
      rcases hpl with hpl | hpl
      · have r := rn_105 (G := G) (m := m) (d := d) (tt := tt) (lenT := lenT) (p := q.1) (kx := 12 * (8 * tt + e) + c) (c := nI c) (x1 := nI e) (BT := BT) (B := B) (k50 := B_X11_named_50 G fu) hL h.1.2.1 htt (by omega) q1 hpl hlT (fun i hi => hB _ (by omega)) hT FU 0 (by unfold FU; omega) (by omega)
        rw [nI_0, Nat.add_zero, Nat.sub_zero] at r
        rw [r]
        by_cases u : sm BT B 0 q.1 lenT = true
        · rw [if_pos u, if_pos ⟨w, u⟩]
          exact ⟨m, rfl, OMr.rf, rfl⟩
        · rw [if_neg u, if_neg (fun z => u z.2), nI_1]
          exact rest
      · have u : sm BT B 0 q.1 lenT = true := by rw [hpl]; rfl
        rw [if_pos ⟨w, u⟩, show FU = 999999 + 1 from rfl, B_X11_named_105, hpl, if_pos (by rw [nI_0]; decide)]
        unfold B_X11_named_163
        rw [if_neg (by decide)]
        exact ⟨m, rfl, OMr.rf, rfl⟩
    · rw [if_neg (fun z => w ((nI_eq (by omega) (by omega)).mp z)), if_neg (fun z => w z.1)]
      have fin1 : B_X11_named_105 G (B_X11_named_50 G fu) FU d (nI e) (nI lenT) (nI c) (nI (12 * (8 * tt + e) + c)) 0 0 m = B_X11_named_50 G fu d (nI e) (nI lenT) (nI (c + 1)) m := by
        have f163 : B_X11_named_163 G (B_X11_named_50 G fu) d (nI e) (nI lenT) (nI c) 0 m = B_X11_named_50 G fu d (nI e) (nI lenT) (nI (c + 1)) m := by
          unfold B_X11_named_163
          rw [if_pos rfl, nI_1]
        rw [show FU = 999999 + 1 from rfl, B_X11_named_105]
        by_cases v : nI lenT ≤ 0
        · rw [if_pos v, f163]
        · rw [if_neg v, if_pos rfl, f163]
      rw [fin1]
      exact rest
theorem ZR.runT {G : GG} {m m1 : MM} {d tt lenT : Nat} {BT BT' : Nat → Int32} {len : Nat} {B : Nat → Int32} {P : List Enm} {K : List Ko} {g g' : Sg} {he : Nat} {hs : List Nat} {ca k : Nat} {fc fc' : Int32} {F : Nat × Nat} (h : ZR G m d tt lenT BT len B P K g he hs ca fc F) (o : OM m m1 d [1, 61, 62, 63, 64, 70] [42, 43, 44, 45, 46, 47, 48, 49, 50, 51]) (h1' : gI m1 d 1 = nI 0) (c : RN G m1 d tt B K P g' k fc') : ZR G m1 d tt 0 BT' len B P K g' he hs k fc' F := by
  obtain ⟨h1, h2, h3, h6, h7, h8, h9, h10, h11, h12⟩ := id h
  have fa : ∀ p, 0 < p → p < 42 ∨ 51 < p → m1.1 (d + p) = m.1 (d + p) := fun p hp hq => o.2.2.1 _ (by omega) (fun x hx => by simp at hx; omega)
  have fl : ∀ p, p ≠ 1 → p < 61 ∨ 70 < p → gI m1 d p = gI m d p := fun p hq hp => o.I (by simp; omega)
  exact h.mk o (by simp) (fun i a b => by simp; omega) ⟨h1', fun i hi => by omega⟩ c.2.1 c.2.2.1 ⟨c.2.2.2.1, c.2.2.2.2⟩ ⟨by rw [fl _ (by omega) (by omega)]; exact h11.1, fun z => by rw [fl _ (by omega) (by omega)]; exact h11.2.1 z, fun i c hc => (congrFun (fa _ (by omega) (by omega)) _).trans (h11.2.2 i c hc)⟩ ⟨by rw [fl _ (by omega) (by omega)]; exact h12.1, by rw [fl _ (by omega) (by omega)]; exact h12.2⟩
theorem RN.f1 {G : GG} {m : MM} {d tt : Nat} {B : Nat → Int32} {K : List Ko} {P : List Enm} {g : Sg} {ca : Nat} {fc v : Int32} (h : RN G m d tt B K P g ca fc) : RN G (sI m d 1 v) d tt B K P g ca fc := by
  obtain ⟨a1, a2, a3, a6, a7⟩ := h
  have gi : ∀ p, p ≠ 1 → gI (sI m d 1 v) d p = gI m d p := fun p x => gI_sI_ne (Or.inr x)
  exact ⟨a1.gen (a1.1.kept (OM.f (k := 1) (v := v))) (gi _ (by omega)) (fun i _ _ => fI (by omega)), a2.kept (fun i _ _ => fI (by omega)), a3.kept (gi _ (by omega)) (fI (by omega)), by rw [gi _ (by omega)]; exact a6, by rw [gi _ (by omega)]; exact a7⟩
theorem OMr.f1 {m m1 : MM} {d : Nat} (h : OMr m m1 d) : OM m m1 d [1, 61, 62, 63, 64, 70] [42, 43, 44, 45, 46, 47, 48, 49, 50, 51] := OM.mono h (fun a ha => by simp at ha ⊢; omega) (fun _ z => z)
theorem op_named {G : GG} {n : Nat} {m : MM} (h : INV G m n) (x : Int32) : BOTH G n m (M_X10_named G n x) (M_X11_named G (n + 216) x) := by
  have h0 := h
  obtain ⟨pl, ps, tp, tl, tt, lenT, BT, len, B, P, K, gc, g, hd, hs, ca, fc, F, hA, hC, hR, hF⟩ := h
  have c3 := hC.2.2.1
  have c2 := hC.2.1
  have hP := c3.2.2.2.2.2.1
  have hlT := hC.2.2.2.1.2.2.2.1
  unfold BOTH M_X10_named M_X11_named
  rcases zz_enum hP hR x with ⟨e, E, hE, hx, hi⟩ | ⟨hx, hi⟩
  · obtain ⟨b1, b2, b3, b4, b5, b6, b7⟩ := pb_en hP hE
    have hne : P ≠ [] := fun z => by rw [z] at hE; simp at hE
    have he := get_lt hE
    have htt := hR.2.1.2
    subst hx
    have hk6 := wnt_k (B := B) (P := P) (K := K) 10 e g
    obtain ⟨m1, k1, hC1, cx, u1⟩ := hC.begin hA
    obtain ⟨m2, w1, w2, w3, w4⟩ := want_c hA.1 hA.2.2.2.2.1 hF.1 hF.2.2.2.1 hE cx
    have hC2 := hC1.run hA w3 w2
    have hF2 := hF.run (g' := (wnt B P K 10 e g).2) (wnt_gs 10 e g) (wnt_n 10 e g) hk6
    have hTT := hA.2.2.2.1
    have hN1 := hA.1
    unfold TT at hTT
    -- behind what was looked for: the tape is empty, the call ends
    have tail : ∀ (m3 : MM) (k : Nat) (v : Int32), OX m2 m3 n pl → CX G m3 n pl tl len B P K gc (wnt B P K 10 e g).2 k [] → k ≤ 6 → ∃ m4, M_X10_finish G n v (sI m3 tp 1 0) = some (if k = 0 then v else 0, m4) ∧ ZC G m4 n pl ps tp tl 0 (fun i => if i < 0 then BT i else -1) len B P K gc (wnt B P K 10 e g).2 hd hs k (if k = 0 then fc else fc + 1) F ∧ OU m m4 (n + 216) := fun m3 k v o3 x3 hk => by
      have hC3 := hC2.run hA o3 x3
      obtain ⟨q1, q2⟩ := hC3.tape (m1 := sI m3 tp 1 0) hA (Off.sI.mono (by simp)) rfl (by rw [show (0 : Int32) = nI 0 from nI_0.symm]; exact hC3.2.2.2.1.cut (Nat.zero_le _))
      obtain ⟨m4, r1, r2, r3⟩ := q1.fin (v := v) (k := k) hA (by rw [gI_sI_ne (Or.inl (by omega))]; exact x3.2.2.2.2.1) hk
      exact ⟨m4, r1, r2, u1.tr ((w3.ou hN1).tr ((o3.ou hN1).tr (q2.tr r3)))⟩
    -- the reference's side of the same
    have refw : ∀ (m4 : MM), OU m m4 (n + 216) → ∃ m5, M_X11_want G (n + 216) (nI e) (sI (sI m4 (n + 216) 62 0) (n + 216) 1 0) = some (decide ((wnt B P K 10 e g).1 = 0), m5) ∧ RC G m5 (n + 216) tt B K P (wnt B P K 10 e g).2 [] [] (wnt B P K 10 e g).1 (if (wnt B P K 10 e g).1 = 0 then fc else fc + 1) ∧ OM m4 m5 (n + 216) [1, 61, 62, 63, 64, 70] [42, 43, 44, 45, 46, 47, 48, 49, 50, 51] ∧ gI m5 (n + 216) 1 = nI 0 := fun m4 u => by
      obtain ⟨m5, r1, r2, r3⟩ := mr_want hF.1 hF.2.1 hE hF.2.2.2.1 (((hR.ou u).rn hne).f1 (v := 0))
      exact ⟨m5, r1, r2, OM.tr1 (OM.tr1 (OM.f.mono (by simp) (by simp)) (OM.f.mono (by simp) (by simp))) (OMr.f1 r3), by rw [r3.fl (by omega), gI_sI_eq]; rfl⟩
    have g1 : ∀ m4, OU m m4 (n + 216) → gI (sI m4 (n + 216) 62 0) (n + 216) 1 = nI lenT := fun m4 u => by rw [gI_sI_ne (Or.inr (by omega))]; exact (hR.ou u).2.2.1.1
    have pre : ∀ {X : Option (Int32 × MM)}, (if decide ((wnt B P K 10 e g).1 = 0) = true then bd (M_X10_lookFor G n (pl + 4 + 12 * e) m2) fun r_17 m_18 => nb (gR m_18 n 2) fun b_19 => bd (M_X10_finish G n r_17 (sI m_18 b_19 1 0)) fun r_20 m_21 => some (r_20, m_21) else nb (gR m2 n 2) fun b_14 => bd (M_X10_finish G n 0 (sI m2 b_14 1 0)) fun r_15 m_16 => some (r_15, m_16)) = X → (nb (gR m n 0) fun b_1 => bd (M_X6_enumAt G b_1 (nI e) m) fun r_2 m_3 => el r_2 (some ((-1000001), m_3)) fun b_6 => nb (gR m_3 n 6) fun b_7 => nb (gR m_3 n 0) fun b_8 => bd (M_X7_begin G b_7 b_8 m_3) fun _ m_10 => nb (gR m_10 n 6) fun b_11 => bd (M_X7_wantR G 10 b_11 (nI e) 0 m_10) fun r_12 m_13 => if r_12 = true then bd (M_X10_lookFor G n b_6 m_13) fun r_17 m_18 => nb (gR m_18 n 2) fun b_19 => bd (M_X10_finish G n r_17 (sI m_18 b_19 1 0)) fun r_20 m_21 => some (r_20, m_21) else nb (gR m_13 n 2) fun b_14 => bd (M_X10_finish G n 0 (sI m_13 b_14 1 0)) fun r_15 m_16 => some (r_15, m_16)) = X := fun {X} hX => by
      rw [nb_e c2.1, bd_e (cv_en c3 he), el_e rfl, nb_e hC.1.1.2.2.2.1, nb_e c2.1, bd_e k1, nb_e hC1.1.1.2.2.2.1, bd_e w1]
      exact hX
    by_cases k : (wnt B P K 10 e g).1 = 0
    · rw [k] at w2
      have T2 := hC2.2.2.2.1
      by_cases l0 : lenT = 0
      · -- the tape was empty
        have c5 := (w2.fld hA.1 hA.2.2.2.2.1).1 1
        have o5 : OX m2 (sI m2 (n + 210) 4 (nI 1)) n pl := OX.r hA.1 (Or.inl rfl)
        obtain ⟨m4, q1, q2, u4⟩ := tail _ 1 0 o5 c5 (by omega)
        obtain ⟨m5, r1, r2, r3, r4⟩ := refw m4 u4
        rw [k, if_pos rfl] at r2
        obtain ⟨m6, s1, s2, s3⟩ := mr_fails (k := 1) hP r2 (fun z hz => by simp at hz) (by simp)
        have oR := r3.tr1 (OMr.f1 s3)
        rw [if_neg (by decide)] at q1 q2
        refine ⟨0, m4, m6, ?_, ?_, pl, ps, tp, tl, tt, 0, _, len, B, P, K, gc, _, hd, hs, 1, fc + 1, F, hA, q2.od hA oR.od, (hR.ou u4).runT oR (by rw [s3.fl (by omega)]; exact r4) s2.rn, hF2.run GS.rf NG.rf (by omega)⟩
        · apply pre
          have el1 : M_X10_lookFor G n (pl + 4 + 12 * e) m2 = some (0, sI m2 (n + 210) 4 (nI 1)) := by
            unfold M_X10_lookFor
            rw [nb_e hC2.2.1.2.2, T2.2.2.1, l0, if_pos nI_0, nb_e hC2.1.1.2.2.2.1]
            rfl
          rw [if_pos (decide_eq_true k), bd_e el1, nb_e (show gR (sI m2 (n + 210) 4 (nI 1)) n 2 = some tp from hC2.2.1.2.2), bd_e q1]
        · rw [bd_e (zz_enumT hP (hR.ou u4) he), if_pos rfl, bd_e r1, if_pos (decide_eq_true k), g1 m4 u4, l0, if_pos nI_0, show (1 : Int32) = nI 1 from rfl, bd_e s1]
      · have lf := lf_loop w2.1 hE T2 hC2.2.1.1 hC2.2.1.2.2 hC2.1.1.2.2.2.1 E.2.1 FU 0 rfl (by omega) (by unfold FU; omega)
        rw [nI_0] at lf
        have lfe : M_X10_lookFor G n (pl + 4 + 12 * e) m2 = B_X10_lookFor_23 G FU n (pl + 4 + 12 * e) 0 m2 := by
          unfold M_X10_lookFor
          rw [nb_e hC2.2.1.2.2, T2.2.2.1, if_neg (kne (v := 0) (b := 0) nI_0.symm (by omega) (by omega) l0)]
        cases hn : nmF BT B lenT E.2.1 0 with
        | some j =>
          rw [hn] at lf
          dsimp only at lf
          obtain ⟨m4, q1, q2, u4⟩ := tail m2 0 (nI j) OX.rf w2 (by omega)
          obtain ⟨m5, r1, r2, r3, r4⟩ := refw m4 u4
          rw [k, if_pos rfl] at r2
          obtain ⟨m6, s1, s2, s3⟩ := rn_50 (BT := BT) (lenT := lenT) (len := len) hP r2 hE hF.2.2.2.2.2.2.2.2.2.1 (fun i hi => (congrFun (r3.2.2.1 _ (by omega) (fun x hx => by simp at hx; omega)) _).trans (((hR.ou u4).2.2.2.2.1 hne).2 i hi)) hlT (fun i hi => (congrFun (r3.2.2.1 _ (by omega) (fun x hx => by simp at hx; omega)) _).trans ((hR.ou u4).2.2.1.2 i hi)) E.2.1 FU 0 rfl (by omega) (by unfold FU; omega)
          rw [hn] at s1 s3
          dsimp only at s1 s3
          rw [s3, nI_0] at s1
          rw [if_pos rfl] at q1 q2
          refine ⟨nI j, m4, m5, ?_, ?_, pl, ps, tp, tl, tt, 0, _, len, B, P, K, gc, _, hd, hs, 0, fc, F, hA, q2.od hA r3.od, (hR.ou u4).runT r3 r4 r2.rn, hF2.run GS.rf NG.rf (by omega)⟩
          · apply pre
            rw [if_pos (decide_eq_true k), lfe, bd_e lf, nb_e hC2.2.1.2.2, bd_e q1]
          · rw [bd_e (zz_enumT hP (hR.ou u4) he), if_pos rfl, bd_e r1, if_pos (decide_eq_true k), g1 m4 u4, if_neg (kne (v := 0) (b := 0) nI_0.symm (by omega) (by omega) l0), s1]
        | none =>
          rw [hn] at lf
          dsimp only at lf
          have c5 := (w2.fld hA.1 hA.2.2.2.2.1).1 3
          have o5 : OX m2 (sI m2 (n + 210) 4 (nI 3)) n pl := OX.r hA.1 (Or.inl rfl)
          obtain ⟨m4, q1, q2, u4⟩ := tail _ 3 0 o5 c5 (by omega)
          obtain ⟨m5, r1, r2, r3, r4⟩ := refw m4 u4
          rw [k, if_pos rfl] at r2
          obtain ⟨m6, s1, s2, s3⟩ := rn_50 (BT := BT) (lenT := lenT) (len := len) hP r2 hE hF.2.2.2.2.2.2.2.2.2.1 (fun i hi => (congrFun (r3.2.2.1 _ (by omega) (fun x hx => by simp at hx; omega)) _).trans (((hR.ou u4).2.2.2.2.1 hne).2 i hi)) hlT (fun i hi => (congrFun (r3.2.2.1 _ (by omega) (fun x hx => by simp at hx; omega)) _).trans ((hR.ou u4).2.2.1.2 i hi)) E.2.1 FU 0 rfl (by omega) (by unfold FU; omega)
          rw [hn] at s1 s3
          dsimp only at s1 s3
          rw [nI_0] at s1
          have oR := r3.tr1 (OMr.f1 s2)
          rw [if_neg (by decide)] at q1 q2
          refine ⟨0, m4, m6, ?_, ?_, pl, ps, tp, tl, tt, 0, _, len, B, P, K, gc, _, hd, hs, 3, fc + 1, F, hA, q2.od hA oR.od, (hR.ou u4).runT oR (by rw [s2.fl (by omega)]; exact r4) s3.rn, hF2.run GS.rf NG.rf (by omega)⟩
          · apply pre
            rw [if_pos (decide_eq_true k), lfe, bd_e lf, nb_e (show gR (sI m2 (n + 210) 4 (nI 3)) n 2 = some tp from hC2.2.1.2.2), bd_e q1]
          · rw [bd_e (zz_enumT hP (hR.ou u4) he), if_pos rfl, bd_e r1, if_pos (decide_eq_true k), g1 m4 u4, if_neg (kne (v := 0) (b := 0) nI_0.symm (by omega) (by omega) l0), s1]
    · obtain ⟨m4, q1, q2, u4⟩ := tail m2 _ 0 OX.rf w2 hk6
      obtain ⟨m5, r1, r2, r3, r4⟩ := refw m4 u4
      rw [if_neg k] at q1
      refine ⟨0, m4, m5, ?_, ?_, pl, ps, tp, tl, tt, 0, _, len, B, P, K, gc, _, hd, hs, _, _, F, hA, q2.od hA r3.od, (hR.ou u4).runT r3 r4 r2.rn, hF2⟩
      · apply pre
        rw [if_neg (by simp [k]), nb_e hC2.2.1.2.2, bd_e q1]
      · rw [bd_e (zz_enumT hP (hR.ou u4) he), if_pos rfl, bd_e r1, if_neg (by simp [k])]
  · refine ⟨-1000001, m, m, ?_, by rw [bd_e hi, if_neg (by decide)], h0⟩
    rw [nb_e c2.1, bd_e (zc_enum c3 hx), el_n rfl]
