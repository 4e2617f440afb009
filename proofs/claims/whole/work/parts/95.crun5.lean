/-! ===== L2: the class's Runner: whole ===== -/
theorem nk0 {k : Nat} (hk : k ≤ 6) (h : k ≠ 0) : ¬ nI k = 0 := kne (v := 0) (b := 0) nI_0.symm (by omega) (by omega) h
theorem cr_17 {G : GG} {n pl tl len : Nat} {B : Nat → Int32} {P : List Enm} {K : List Ko} {gc : Nat → Nat → Nat → Int32} {D dd e : Nat} {fw : Nat → Int32 → Int32 → MM → Option (Bool × MM)} {W : Nat → Sg → Nat × Sg} {E : Enm} {ss : List Int32} (hN : PN n pl) (hT : TT n tl) (hO : OKP B P K) (hfw : HC G n pl tl len B P K gc D dd fw W) (hW : HW P W) (hk6 : HK W) (hE : P[e]? = some E) (hss : ss.length ≤ 21 * dd) (hd8 : dd ≤ 8) : ∀ (k c fu : Nat) (g : Sg) (m : MM), k + 1 < fu → c + k = E.2.1.length → g.1 e = 3 → g.2.1 e = c → CX G m n pl tl len B P K gc g 0 ss → ISg P g → zc g < D → dd + zc g ≤ 8 → ∃ m1, B_X7_start_17 G fw fu (n + 210) (nI e) (pl + 4 + 12 * e) (nI dd) (nI c) m = B_X7_start_51 G fw FU (n + 210) (nI e) (pl + 4 + 12 * e) (nI dd) 0 m1 ∧ CX G m1 n pl tl len B P K gc (mkl W B P K e E k c g).2 (mkl W B P K e E k c g).1 ss ∧ OX m m1 n pl := by
  intro k
  induction k with
  | zero =>
    intro c fu g m hfu hc h3 hf h hI hz hd
    obtain ⟨b1, b2, b3, -⟩ := pb_en h.1.2.2.2.2.2.1 hE
    cases fu with
    | zero => omega
    | succ fu =>
    rw [B_X7_start_17, (h.1.2.2.2.2.2.2 e E hE).2.1.2.1, if_pos ((nI_leI (by omega) (by omega)).mpr (by omega))]
    exact ⟨m, rfl, h, OX.rf⟩
  | succ k ih =>
    intro c fu g m hfu hc h3 hf h hI hz hd
    obtain ⟨b1, b2, b3, -⟩ := pb_en h.1.2.2.2.2.2.1 hE
    cases fu with
    | zero => omega
    | succ fu =>
    obtain ⟨m1, f1, f2, f3⟩ := cr_make (c := c) hN hT hO hfw hW hk6 hE (by omega) hss hd8 h hI hz hd
    rw [B_X7_start_17, (h.1.2.2.2.2.2.2 e E hE).2.1.2.1, if_neg (fun w => absurd ((nI_leI (by omega) (by omega)).mp w) (by omega)), h.2.2.2.2.1, if_pos nI_0, bd_e f1, nI_1, mkl]
    obtain ⟨a1, a2⟩ := mkr_ge (B := B) (K := K) hW hE h3 hf (by omega)
    have hzz := a1.zc
    by_cases w : (mkr W B P K e E c g).1 = 0
    · rw [if_pos w]
      rw [w] at f2
      obtain ⟨m2, g1, g2, g3⟩ := ih (c + 1) fu _ m1 (by omega) (by omega) (a1.2.1.trans h3) (a2 w) f2 (a1.2.2 hI) (by omega) (by omega)
      exact ⟨m2, g1, g2, f3.tr g3⟩
    · rw [if_neg w]
      cases fu with
      | zero => omega
      | succ fu =>
      refine ⟨m1, ?_, f2, f3⟩
      rw [B_X7_start_17, f2.2.2.2.2.1, if_neg (nk0 (mkr_k hk6) w)]
      split <;> rfl
theorem cr_51 {G : GG} {n pl tl len : Nat} {B : Nat → Int32} {P : List Enm} {K : List Ko} {gc : Nat → Nat → Nat → Int32} {D dd e : Nat} {fw : Nat → Int32 → Int32 → MM → Option (Bool × MM)} {W : Nat → Sg → Nat × Sg} {E : Enm} {ss : List Int32} (hN : PN n pl) (hT : TT n tl) (hO : OKP B P K) (hfw : HC G n pl tl len B P K gc D dd fw W) (hW : HW P W) (hk6 : HK W) (hE : P[e]? = some E) (hss : ss.length ≤ 21 * dd) (hd8 : dd ≤ 8) : ∀ (l : List Mem) (f fu : Nat) (g : Sg) (m : MM), l.length + 1 < fu → (fls E.2.2).drop f = l → f + l.length = (fls E.2.2).length → g.1 e = 3 → g.2.1 e = E.2.1.length + f → CX G m n pl tl len B P K gc g 0 ss → ISg P g → zc g < D → dd + zc g ≤ 8 → ∃ m1, B_X7_start_51 G fw fu (n + 210) (nI e) (pl + 4 + 12 * e) (nI dd) (nI f) m = B_X7_start_81 G fw (n + 210) (nI e) (pl + 4 + 12 * e) m1 ∧ CX G m1 n pl tl len B P K gc (sfs W B P K e E l f g).2 (sfs W B P K e E l f g).1 ss ∧ OX m m1 n pl := by
  intro l
  induction l with
  | nil =>
    intro f fu g m hfu hdr hc h3 hf h hI hz hd
    obtain ⟨b1, b2, b3, b4, b5, -⟩ := pb_en h.1.2.2.2.2.2.1 hE
    rw [List.length_nil] at hc
    cases fu with
    | zero => omega
    | succ fu =>
    rw [B_X7_start_51, (h.1.2.2.2.2.2.2 e E hE).2.1.2.2.2.1, if_pos ((nI_leI (by omega) (by omega)).mpr (by omega))]
    exact ⟨m, rfl, h, OX.rf⟩
  | cons y l ih =>
    intro f fu g m hfu hdr hc h3 hf h hI hz hd
    obtain ⟨b1, b2, b3, b4, b5, -⟩ := pb_en h.1.2.2.2.2.2.1 hE
    rw [List.length_cons] at hc hfu
    have hy : (fls E.2.2)[f]? = some y := by
      have := congrArg (fun l => l[0]?) hdr
      simpa using this
    cases fu with
    | zero => omega
    | succ fu =>
    obtain ⟨m1, f1, f2, f3⟩ := cr_set hN hT hO hfw hW hk6 hE hy hf h3 hss hd8 h hI hz hd
    rw [B_X7_start_51, (h.1.2.2.2.2.2.2 e E hE).2.1.2.2.2.1, if_neg (fun w => absurd ((nI_leI (by omega) (by omega)).mp w) (by omega)), h.2.2.2.2.1, if_pos nI_0, bd_e f1, nI_1, sfs]
    obtain ⟨a1, a2⟩ := sfl_ge (B := B) (K := K) (y := y) hW hE h3 hf (by omega)
    have hzz := a1.zc
    by_cases w : (sfl W B P K e E f y g).1 = 0
    · rw [if_pos w]
      rw [w] at f2
      obtain ⟨m2, g1, g2, g3⟩ := ih (f + 1) fu _ m1 (by omega) (by rw [← List.drop_drop, hdr]; rfl) (by omega) (a1.2.1.trans h3) (a2 w) f2 (a1.2.2 hI) (by omega) (by omega)
      exact ⟨m2, g1, g2, f3.tr g3⟩
    · rw [if_neg w]
      cases fu with
      | zero => omega
      | succ fu =>
      refine ⟨m1, ?_, f2, f3⟩
      rw [B_X7_start_51, f2.2.2.2.2.1, if_neg (nk0 (sfl_k hk6) w)]
      split <;> rfl
theorem cr_51f {G : GG} {m : MM} {n pl tl len : Nat} {B : Nat → Int32} {P : List Enm} {K : List Ko} {gc : Nat → Nat → Nat → Int32} {x1 x3 x4 : Int32} {x2 k fu : Nat} {fw : Nat → Int32 → Int32 → MM → Option (Bool × MM)} {g : Sg} {ss : List Int32} (h : CX G m n pl tl len B P K gc g k ss) (hk : k ≠ 0) (hk6 : k ≤ 6) : B_X7_start_51 G fw (fu + 1) (n + 210) x1 x2 x3 x4 m = B_X7_start_81 G fw (n + 210) x1 x2 m := by
  rw [B_X7_start_51, h.2.2.2.2.1, if_neg (nk0 hk6 hk)]
  split <;> rfl
/-- a write of an enumeration's state alone -/
theorem CX.sta {G : GG} {m : MM} {n pl tl len e s : Nat} {B : Nat → Int32} {P : List Enm} {K : List Ko} {gc : Nat → Nat → Nat → Int32} {g : Sg} {k : Nat} {st : List Int32} (hN : PN n pl) (hT : TT n tl) (h : CX G m n pl tl len B P K gc g k st) (he : e < P.length) : CX G (sI m (pl + 4 + 12 * e) 17 (nI s)) n pl tl len B P K gc (stS g e s) k st ∧ OX m (sI m (pl + 4 + 12 * e) 17 (nI s)) n pl := by
  have h8 := h.p8
  have o : OX m (sI m (pl + 4 + 12 * e) 17 (nI s)) n pl := OX.e (by omega) (Or.inl rfl)
  refine ⟨CX.enm (e := e) hN hT h o (fun a x _ _ => by rw [sI_ne x]) he (fun x hx => ⟨up_n hx, rfl, fun _ => rfl, fun _ => rfl⟩) rfl (fun X hX => ?_), o⟩
  obtain ⟨s1, s2, s3, s4⟩ := h.2.1 e X hX
  refine ⟨?_, ?_, fun c' hc' => ?_, fun i q hq => ?_⟩
  · rw [gI_sI_eq, show (stS g e s).1 e = s from up_e]
  · rw [gI_sI_ne (Or.inr (by omega))]
    exact s2
  · rw [gI_sI_ne (Or.inl (by omega))]
    exact s3 c' hc'
  · rw [gI_sI_ne (Or.inl (by omega))]
    exact s4 i q hq
theorem cr_81 {G : GG} {m : MM} {n pl tl len e : Nat} {B : Nat → Int32} {P : List Enm} {K : List Ko} {gc : Nat → Nat → Nat → Int32} {g : Sg} {k : Nat} {ss : List Int32} {fw : Nat → Int32 → Int32 → MM → Option (Bool × MM)} (hN : PN n pl) (hT : TT n tl) (h : CX G m n pl tl len B P K gc g k ss) (he : e < P.length) (hk : k ≤ 6) : ∃ m1, B_X7_start_81 G fw (n + 210) (nI e) (pl + 4 + 12 * e) m = some ((), m1) ∧ CX G m1 n pl tl len B P K gc (fin e (k, g)).2 (fin e (k, g)).1 ss ∧ OX m m1 n pl := by
  have h8 := h.p8
  have hN2 := hN
  unfold PN at hN2
  unfold B_X7_start_81 fin
  rw [h.2.2.2.2.1]
  by_cases w : k = 0
  · obtain ⟨c1, c2⟩ := h.sta (s := 1) hN hT he
    obtain ⟨m1, e1, e2, e3⟩ := cr_trace (v := nI (1000 * e + 100)) hN hT c1
    have e1' : M_X7_addTrace G (n + 210) (1000 * nI e + 100) (sI m (pl + 4 + 12 * e) 17 1) = some ((), m1) := by
      rw [show (1000 : Int32) = nI 1000 from rfl, pk_mul, show (100 : Int32) = nI 100 from rfl, nI_add]
      exact e1
    rw [if_pos (by rw [w, nI_0]), if_pos w]
    unfold B_X7_start_94
    rw [gI_sI_ne (Or.inl (by omega)), h.2.2.2.2.1, if_pos (by rw [w, nI_0]), bd_e e1']
    rw [w] at e2
    exact ⟨m1, rfl, e2, c2.tr e3⟩
  · obtain ⟨c1, c2⟩ := h.sta (s := 2) hN hT he
    obtain ⟨m1, e1, e2, e3⟩ := cr_trace (v := nI (1000 * e + 200)) hN hT c1
    have e1' : M_X7_addTrace G (n + 210) (1000 * nI e + 200) (sI m (pl + 4 + 12 * e) 17 2) = some ((), m1) := by
      rw [show (1000 : Int32) = nI 1000 from rfl, pk_mul, show (200 : Int32) = nI 200 from rfl, nI_add]
      exact e1
    rw [if_neg (nk0 hk w), if_neg w]
    unfold B_X7_start_94
    rw [gI_sI_ne (Or.inl (by omega)), h.2.2.2.2.1, if_neg (nk0 hk w), bd_e e1']
    exact ⟨m1, rfl, e2, c2.tr e3⟩
theorem cr_start {G : GG} {m : MM} {n pl tl len : Nat} {B : Nat → Int32} {P : List Enm} {K : List Ko} {gc : Nat → Nat → Nat → Int32} {D dd e : Nat} {fw : Nat → Int32 → Int32 → MM → Option (Bool × MM)} {W : Nat → Sg → Nat × Sg} {E : Enm} {g : Sg} {ss : List Int32} (hN : PN n pl) (hT : TT n tl) (hO : OKP B P K) (hfw : HC G n pl tl len B P K gc D dd fw W) (hW : HW P W) (hk6 : HK W) (hE : P[e]? = some E) (h0 : g.1 e = 0) (hss : ss.length ≤ 21 * dd) (hd8 : dd ≤ 8) (h : CX G m n pl tl len B P K gc g 0 ss) (hI : ISg P g) (hz : zc g < D + 1) (hd : dd + zc g ≤ 9) : ∃ m1, M_X7_start G fw (n + 210) (nI e) (pl + 4 + 12 * e) (nI dd) m = some ((), m1) ∧ CX G m1 n pl tl len B P K gc (strt W B P K e E g).2 (strt W B P K e E g).1 ss ∧ OX m m1 n pl := by
  obtain ⟨b1, b2, b3, b4, b5, b6, b7⟩ := pb_en h.1.2.2.2.2.2.1 hE
  have he := get_lt hE
  obtain ⟨g1, g2, g3, g4⟩ := bgn_ge hE h0
  have zb := zc_bgn b1 h0
  obtain ⟨c1, c2⟩ := h.sta (s := 3) hN hT he
  have c3 : CX G (sI m (pl + 4 + 12 * e) 17 (nI 3)) n pl tl len B P K gc (faS (stS g e 3) e 0) 0 ss := by
    refine CX.enm (e := e) hN hT c1 OX.rf (fun _ _ _ _ => rfl) he (fun x hx => ⟨rfl, up_n hx, fun _ => rfl, fun _ => rfl⟩) rfl (fun X hX => ?_)
    obtain ⟨s1, s2, s3, s4⟩ := c1.2.1 e X hX
    refine ⟨s1, ?_, s3, s4⟩
    rw [show (faS (stS g e 3) e 0).2.1 e = 0 from up_e, s2, show (stS g e 3).2.1 e = 0 from ((hI e X hX).2.2.1 h0).1]
  obtain ⟨m1, e1, e2, e3⟩ := cr_trace (v := nI (1000 * e)) hN hT c3
  have e1' : M_X7_addTrace G (n + 210) (1000 * nI e) (sI m (pl + 4 + 12 * e) 17 3) = some ((), m1) := by
    rw [show (1000 : Int32) = nI 1000 from rfl, pk_mul]
    exact e1
  unfold M_X7_start
  rw [bd_e e1']
  obtain ⟨m2, f1, f2, f3⟩ := cr_17 hN hT hO hfw hW hk6 hE hss hd8 E.2.1.length 0 FU (bgn e g) m1 (by unfold FU; omega) (by omega) g2 g3 e2 (g4 hI) (by omega) (by omega)
  rw [nI_0] at f1
  rw [f1]
  obtain ⟨a1, a2⟩ := mkl_ge (B := B) (K := K) hW hE E.2.1.length 0 (bgn e g) g2 g3 (by omega)
  have zz := a1.zc
  have hm6 := mkl_k (B := B) (P := P) (K := K) (e := e) (E := E) hk6 E.2.1.length 0 (bgn e g)
  have hb : ∃ m3, B_X7_start_51 G fw FU (n + 210) (nI e) (pl + 4 + 12 * e) (nI dd) 0 m2 = B_X7_start_81 G fw (n + 210) (nI e) (pl + 4 + 12 * e) m3 ∧ CX G m3 n pl tl len B P K gc (bdy W B P K e E (mkl W B P K e E E.2.1.length 0 (bgn e g))).2 (bdy W B P K e E (mkl W B P K e E E.2.1.length 0 (bgn e g))).1 ss ∧ OX m2 m3 n pl := by
    unfold bdy
    by_cases w : (mkl W B P K e E E.2.1.length 0 (bgn e g)).1 = 0
    · rw [if_pos w]
      rw [w] at f2
      have := cr_51 hN hT hO hfw hW hk6 hE hss hd8 (fls E.2.2) 0 FU _ m2 (by unfold FU; omega) rfl (by omega) (a1.2.1.trans g2) (a2 w) f2 (a1.2.2 (g4 hI)) (by omega) (by omega)
      rw [nI_0] at this
      exact this
    · rw [if_neg w]
      exact ⟨m2, cr_51f (fu := 999999) f2 w hm6, f2, OX.rf⟩
  obtain ⟨m3, h1, h2, h3⟩ := hb
  rw [h1]
  obtain ⟨m4, k1, k2, k3⟩ := cr_81 (fw := fw) hN hT h2 he (bdy_k hk6 hm6)
  exact ⟨m4, k1, k2, c2.tr (e3.tr (f3.tr (h3.tr k3)))⟩
theorem cr_want {G : GG} {n pl tl len : Nat} {B : Nat → Int32} {P : List Enm} {K : List Ko} {gc : Nat → Nat → Nat → Int32} (hN : PN n pl) (hT : TT n tl) (hO : OKP B P K) : ∀ (D dd : Nat), HC G n pl tl len B P K gc D dd (M_X7_wantR G D) (wnt B P K D) := by
  intro D
  induction D with
  | zero => intro dd e E m g st hE h hI hz; omega
  | succ D ih =>
    intro dd e E m g st hE h hI hz hd hl
    obtain ⟨b1, b2, b3, b4, b5, b6, b7⟩ := pb_en h.1.2.2.2.2.2.1 hE
    have he := get_lt hE
    obtain ⟨i1, i2, i3, i4, i5⟩ := hI e E hE
    obtain ⟨s1, s2, s3, s4⟩ := h.2.1 e E hE
    rw [M_X7_wantR]
    unfold M_X7_want
    rw [nb_e h.2.2.2.1.2.2.1, bd_e (cv_en h.1 he), el_e rfl, s1, wnt]
    by_cases w2 : g.1 e = 2
    · rw [if_pos (by rw [w2]; rfl), if_pos w2]
      exact ⟨_, rfl, (h.fld hN hT).1 6, OX.r hN (Or.inl rfl), fun z => by cases z⟩
    rw [if_neg (kne (v := 2) (b := 2) rfl (by omega) (by omega) w2), if_neg w2]
    by_cases w0 : g.1 e = 0
    · have hzp := zc_pos b1 w0
      rw [if_pos (by rw [w0, nI_0]), if_pos w0, hE, show (8 : Int32) = nI 8 from rfl, if_neg (fun z => absurd ((nI_leI (by omega) (by omega)).mp z) (by omega)), nI_1]
      dsimp only
      obtain ⟨m1, e1, e2, e3⟩ := cr_start hN hT hO (ih (dd + 1)) (wnt_gs D) (wnt_k D) hE w0 (by omega) (by omega) h hI (by omega) (by omega)
      rw [bd_e e1]
      unfold B_X7_want_50
      rw [e2.2.2.2.2.1]
      have h6 : (strt (wnt B P K D) B P K e E g).1 ≤ 6 := by
        have := wnt_k (B := B) (P := P) (K := K) (D + 1) e g
        rw [wnt, if_neg w2, if_pos w0, hE] at this
        exact this
      refine ⟨m1, ?_, e2, e3, fun z => Or.inl ((strt_gs (wnt_gs D) hE w0).2.1 z)⟩
      by_cases k : (strt (wnt B P K D) B P K e E g).1 = 0
      · rw [if_pos (by rw [k, nI_0]), decide_eq_true k]
      · rw [if_neg (nk0 h6 k), decide_eq_false k]
    · rw [if_neg (kne (v := 0) (b := 0) nI_0.symm (by omega) (by omega) w0), if_neg w0]
      unfold B_X7_want_50
      rw [h.2.2.2.2.1, if_pos nI_0]
      exact ⟨m, rfl, h, OX.rf, fun _ => by show g.1 e = 1 ∨ g.1 e = 3; omega⟩
