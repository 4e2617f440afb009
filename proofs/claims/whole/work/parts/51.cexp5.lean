/-! ===== L2: the class's reading of an exp: the whole ===== -/
def jI (k : Nat) : Int32 := if jop k = 0 then -1 else nI (jop k)
theorem cx_join {G : GG} {m : MM} {x tk : Nat} {k : Nat} (h1 : gR m x 1 = some tk) (h2 : gI m tk 3 = nI k) (hk : k < 256) : M_X2_joiningOp G x m = some (jI k, m) := by
  unfold M_X2_joiningOp
  rw [nb_e h1, h2]
  unfold jI jop
  by_cases q1 : k = 42
  · subst q1; rfl
  rw [if_neg (k_ne 42 42 rfl (by omega) (by omega) q1)]
  by_cases q2 : k = 43
  · subst q2; rfl
  rw [if_neg (k_ne 43 43 rfl (by omega) (by omega) q2)]
  by_cases q3 : k = 44
  · subst q3; rfl
  rw [if_neg (k_ne 44 44 rfl (by omega) (by omega) q3)]
  by_cases q4 : k = 45
  · subst q4; rfl
  rw [if_neg (k_ne 45 45 rfl (by omega) (by omega) q4)]
  by_cases q5 : k = 46
  · subst q5; rfl
  rw [if_neg (k_ne 46 46 rfl (by omega) (by omega) q5)]
  by_cases q6 : k = 47
  · subst q6; rfl
  rw [if_neg (k_ne 47 47 rfl (by omega) (by omega) q6)]
  simp [q1, q2, q4, q6]
theorem jop_cases (k : Nat) : jop k = 0 ∨ jop k = 8 ∨ jop k = 9 ∨ jop k = 10 ∨ jop k = 11 := by
  unfold jop
  repeat' split
  all_goals omega
theorem cx_sign {G : GG} {m : MM} {x tk pg fa so k de sg : Nat} {L : List Tok} {st : List Nat} {out : List Op} {C0 : List Int64} {F0 : Nat × Nat} {c : Tok} (hD : DX x tk pg fa) (hE : EL L) (h : EX G m x tk pg fa so L k st de sg out C0 F0) (hc : L[k]? = some c) (hj : jop c.1 ≠ 0) : (20 ≤ sg → M_X2_readSign G x (nI (jop c.1)) m = some (false, m) ∧ pE (1, 0, st, de, sg, out) (L.drop k) = (false, out, L.drop k)) ∧ (sg < 20 → ∃ (m1 : MM) (st1 : List Nat) (de1 : Nat) (out1 : List Op), M_X2_readSign G x (nI (jop c.1)) m = some (true, m1) ∧ EX G m1 x tk pg fa so L (k + 1) st1 de1 (sg + 1) out1 C0 F0 ∧ Off m m1 [x, x + 1, tk, pg, pg + 3] ∧ m1.2.2 = m.2.2 ∧ (∀ j, j ≠ 4 → gI m1 pg j = gI m pg j) ∧ pE (1, 0, st, de, sg, out) (L.drop k) = pE (0, 0, st1, de1, sg + 1, out1) (L.drop (k + 1))) := by
  have h0 := h
  obtain ⟨hX, hT, hF, hS, hB, hkl⟩ := h
  obtain ⟨n0, d1, d2, d3, d4⟩ := id hD
  have hL := hT.1.2.2.2.1
  have e8 : gI m x 8 = nI sg := hX.2.2.2.2.2.2.2.2.2.2.1
  have hsg := hS.2.2.2.2
  unfold M_X2_readSign
  rw [e8, show (20 : Int32) = nI 20 from rfl]
  refine ⟨fun h20 => ?_, fun h20 => ?_⟩
  · rw [if_neg (fun z => absurd ((nI_ltI (by omega) (by omega)).mp z) (by omega))]
    refine ⟨rfl, ?_⟩
    rw [drop_cons hc]
    refine pE_end (q := (false, out)) ?_
    show stp1 st de sg out c.1 = _
    unfold stp1
    rw [if_pos hj, if_pos h20]
  · rw [if_pos ((nI_ltI (by omega) (by omega)).mpr h20), nI_1]
    have hjr : 0 < rnk (jop c.1) ∧ rnk (jop c.1) ≤ 2 ∧ jop c.1 ≠ 7 ∧ jop c.1 < 12 ∧ 7 ≤ jop c.1 := by
      rcases jop_cases c.1 with q | q | q | q | q <;> rw [q] <;> first | exact absurd q hj | decide
    have ej : opI (jop c.1) = nI (jop c.1) := by simp [opI, hj]
    have o1 : Off m (sI m x 8 (nI (sg + 1))) [x] := Off.sI
    have hEX1 : EX G (sI m x 8 (nI (sg + 1))) x tk pg fa so L k st de (sg + 1) out C0 F0 := by
      obtain ⟨a0, a1, a2, a3, a4, a5, a6, a7, a8, a9, a10, a11⟩ := hX
      obtain ⟨s1, s2, s3, s4, s5⟩ := hS
      refine ⟨⟨a0, a1, a2, a3, a4, ?_, ?_, ?_, ?_, ?_, gI_sI_eq, a11.kept o1 (by simp; omega) (by simp; omega)⟩, hT.kept o1 (by simp; omega) (by simp; omega), hF.kept o1 (by simp; omega), ⟨s1, s2, s3, s4, by omega⟩, hB, hkl⟩
      · rw [gI_sI_ne (Or.inr (by decide))]; exact a5
      · rw [gI_sI_ne (Or.inr (by decide))]; exact a6
      · exact a7.kept (fun j _ => by rw [gI_sI_ne (Or.inl (by omega))])
      · rw [gI_sI_ne (Or.inr (by decide))]; exact a8
      · rw [gI_sI_ne (Or.inr (by decide))]; exact a9
    have est := cx_strength (G := G) (m := sI m x 8 (nI (sg + 1))) (x := x) hjr.2.2.2.1
    rw [ej] at est
    rw [bd_e est]
    obtain ⟨m2, f1, f2, f3, f4, f5⟩ := cx_putE hD hjr.1 (by omega) hEX1
    rw [bd_e f1]
    obtain ⟨hX2, hT2, hF2, hS2, hB2, hk2⟩ := f2
    have hl := popG_len st (rnk (jop c.1))
    have hS2' := hS2
    obtain ⟨s1, s2, s3, s4, s5⟩ := hS2
    have hok : okS 3 (jop c.1 :: (popG (rnk (jop c.1)) st).2) := by
      simp only [okS]
      rw [if_neg hj, if_neg hjr.2.2.1]
      exact ⟨by omega, hjr.1, okS_top st _ 3 hjr.1 hjr.2.1 hS.1⟩
    have hno : opn (jop c.1 :: (popG (rnk (jop c.1)) st).2) = opn (popG (rnk (jop c.1)) st).2 := by simp [opn, hj]
    have hnn : nng (jop c.1 :: (popG (rnk (jop c.1)) st).2) = nng (popG (rnk (jop c.1)) st).2 := by simp [nng, hjr.2.2.1]
    have hSN : SH (jop c.1 :: (popG (rnk (jop c.1)) st).2) (de - nng (popG (rnk (jop c.1)) st).1) (sg + 1) := by
      refine ⟨hok, fun y hy => ?_, by rw [hno, hnn]; exact s3, s4, s5⟩
      rcases List.mem_cons.mp hy with q | q
      · exact Or.inr (by omega)
      · exact s2 y q
    have hl26 := hSN.l26
    rw [List.length_cons] at hl26
    obtain ⟨m3, g1, g2, g3, g4⟩ := cx_push hD hX2 (y := jop c.1) (by omega)
    rw [ej] at g1
    rw [bd_e g1, nb_e (show gR m3 x 1 = some tk from g2.2.2.1)]
    have hT3 := hT2.kept g3 (by simp; omega) (by simp; omega)
    have hk1 := hE k c hc (fun z => by rw [z] at hj; exact hj rfl)
    obtain ⟨m4, i1, i2, i3, i4⟩ := tk_advance hT3 hk1
    rw [bd_e i1]
    rw [← hno] at g2
    refine ⟨m4, _, _, _, rfl, ⟨g2.kept i3 (by simp; omega) (by simp; omega) (by simp; omega) (by simp; omega), i2, hF2.kept (g3.tr i3) (by simp; omega), hSN, by rw [List.length_cons]; omega, hk1⟩, (((o1.tr f3).tr g3).tr i3).mono (by simp), by rw [i4, g4, f5]; rfl, fun j hj => by rw [i3.I (by simp; omega), g3.I (by simp; omega), f4 j hj, o1.I (by simp; omega)], ?_⟩
    rw [drop_cons hc]
    refine pE_go ?_
    show stp1 st de sg out c.1 = _
    unfold stp1
    rw [if_pos hj, if_neg (by omega)]
theorem cx_finish {G : GG} {m : MM} {x tk pg fa so k de sg : Nat} {L : List Tok} {st : List Nat} {out : List Op} {C0 : List Int64} {F0 : Nat × Nat} {c : Tok} (hD : DX x tk pg fa) (h : EX G m x tk pg fa so L k st de sg out C0 F0) (hc : L[k]? = some c) (hj : jop c.1 = 0) (hn : ¬ (c.1 = 41 ∧ 0 ∈ st)) : ∃ (b : Bool) (m1 : MM) (o : List Op), M_X2_finishExp G x m = some (b, m1) ∧ pE (1, 0, st, de, sg, out) (L.drop k) = (b, o, L.drop k) ∧ Off m m1 [x, pg, pg + 3] ∧ m1.2.2 = m.2.2 ∧ (∀ j, j ≠ 4 → gI m1 pg j = gI m pg j) ∧ (b = true → CO G m1 pg (C0 ++ o.map encOp ++ [lN 0]) ∧ FS m1 fa (nts so F0 o) ∧ C0.length + o.length + 1 ≤ k) := by
  have h0 := h
  obtain ⟨hX, hT, hF, hS, hB, hkl⟩ := h
  obtain ⟨n0, d1, d2, d3, d4⟩ := id hD
  have hL := hT.1.2.2.2.1
  have e6 : gI m x 6 = nI (opn st) := hX.2.2.2.2.2.2.2.2.1
  have hde := hS.2.2.2.1
  have hso := hS.2.2.1
  unfold M_X2_finishExp
  rw [e6, show (0 : Int32) = nI 0 from nI_0.symm]
  by_cases h1 : opn st = 0
  · rw [if_pos ((nI_leI (by omega) (by omega)).mpr (by omega))]
    obtain ⟨m1, e1, e2, e3, e4, e5⟩ := cx_putE hD (r := 1) (by omega) (by omega) h0
    rw [show (1 : Int32) = nI 1 from rfl, bd_e e1]
    obtain ⟨hX1, hT1, hF1, hS1, hB1, hk1⟩ := e2
    obtain ⟨m2, f1, f2, f3, f4, f5⟩ := co_put hX1.2.2.2.2.2.2.2.2.2.2.2 (op := 0) (a := 0) (by simp only [List.length_append, List.length_map] at hB1 ⊢; omega) (by omega) (by omega)
    rw [nb_e hX1.2.2.2.1, bd_e f1]
    refine ⟨true, m2, out ++ (popG 1 st).1.map bop, rfl, ?_, (e3.tr f3).mono (by simp), by rw [f5, e5], fun j hj => by rw [f4 j hj, e4 j hj], fun _ => ⟨f2, hF1.kept f3 (by simp; omega), by omega⟩⟩
    rw [drop_cons hc]
    refine pE_end (q := (true, _)) ?_
    show stp1 st de sg out c.1 = _
    unfold stp1
    rw [if_neg (by rw [hj]; decide), if_neg hn, if_neg (fun z => by have := (opn_mem st).mp z; omega)]
  · rw [if_neg (fun z => absurd ((nI_leI (by omega) (by omega)).mp z) (by omega))]
    refine ⟨false, m, out, rfl, ?_, Off.rf, rfl, fun _ _ => rfl, fun z => by cases z⟩
    rw [drop_cons hc]
    refine pE_end (q := (false, _)) ?_
    show stp1 st de sg out c.1 = _
    unfold stp1
    rw [if_neg (by rw [hj]; decide), if_neg hn, if_pos ((opn_mem st).mpr (by omega))]
/-- one level of the class's loop over an exp, and the rest -/
theorem cx_loop {G : GG} {x tk pg fa so : Nat} {L : List Tok} {C0 : List Int64} {F0 : Nat × Nat} (hD : DX x tk pg fa) (hE : EL L) (hso : so < 3) : ∀ (fu sg k de : Nat) (st : List Nat) (out : List Op) (m : MM), EX G m x tk pg fa so L k st de sg out C0 F0 → 21 - sg < fu → ∃ (b : Bool) (m1 : MM) (k1 : Nat) (o : List Op), B_X2_read_27 G fu x (nI sg) m = some (b, m1) ∧ pE (0, 0, st, de, sg, out) (L.drop k) = (b, o, L.drop k1) ∧ Off m m1 [x, x + 1, tk, pg, pg + 3, fa] ∧ m1.2.2 = m.2.2 ∧ (∀ j, j ≠ 4 → gI m1 pg j = gI m pg j) ∧ TK G m1 tk L k1 ∧ k ≤ k1 ∧ (b = true → CO G m1 pg (C0 ++ o.map encOp ++ [lN 0]) ∧ FS m1 fa (nts so F0 o) ∧ C0.length + o.length + 1 ≤ k1) := by
  intro fu
  induction fu with
  | zero => intro i k de st out m _ hf; exact absurd hf (by omega)
  | succ fu ih =>
    intro sg k de st out m h hf
    have hsg := h.2.2.2.1.2.2.2.2
    obtain ⟨n0, d1, d2, d3, d4⟩ := id hD
    rw [B_X2_read_27, show (20 : Int32) = nI 20 from rfl, if_neg (fun z => absurd ((nI_ltI (by omega) (by omega)).mp z) (by omega))]
    unfold M_X2_readNesting
    obtain ⟨b1, m1, k1, de1, st1, e1, e2, e3, e4, e5, e6, e7⟩ := cx_nest hD hE FU 0 k de st m h (by omega) (by unfold FU; omega)
    rw [nI_0] at e1
    have p1 : ∀ j, gI m1 pg j = gI m pg j := fun j => e3.I (by simp; omega) j
    rw [bd_e e1]
    cases b1 with
    | false =>
      rw [if_neg (by decide)]
      exact ⟨false, m1, k1, out, rfl, e7 rfl, e3.mono (by simp), e4, fun j _ => p1 j, e2.2.1, e5, fun z => by cases z⟩
    | true =>
      obtain ⟨q1, q2⟩ := e6 rfl
      rw [if_pos rfl]
      obtain ⟨b2, m2, k2, f1, f2, f3, f4, f5, f6, f7, f8⟩ := cx_one hD hE hso e2 q2
      rw [bd_e f1]
      cases b2 with
      | false =>
        rw [if_neg (by decide)]
        obtain ⟨o, eo⟩ := f8 rfl
        exact ⟨false, m2, k2, o, rfl, by rw [q1, eo], (e3.tr f2).mono (by simp), f3.trans e4, fun j hj => by rw [f4 j hj, p1], f5, by omega, fun z => by cases z⟩
      | true =>
        rw [if_pos rfl]
        obtain ⟨o, r1, r2⟩ := f7 rfl
        unfold M_X2_readClosing
        obtain ⟨m3, g1, g2, g3, g4, g5⟩ := cx_putE hD (r := 3) (by omega) (by omega) r1
        rw [show (3 : Int32) = nI 3 from rfl, bd_e g1]
        have hop : opn (popG 3 st1).2 + 0 ≤ 8 := by
          have := g2.2.2.2.1.2.2.1
          have := g2.2.2.2.1.2.2.2.1
          omega
        obtain ⟨m4, k4, de4, st4, out4, i1, i2, i3, i4, i5, i6, i7, i8⟩ := cx_close hD hE FU 0 k2 _ _ _ m3 g2 hop (by unfold FU; omega)
        rw [nI_0] at i1
        rw [bd_e i1, if_pos rfl]
        have hk4 := i2.2.2.2.2.2
        obtain ⟨c, hc⟩ : ∃ c, L[k4]? = some c := ⟨L[k4], List.getElem?_eq_getElem hk4⟩
        obtain ⟨c3, c4, c5, b1, b2, b3⟩ := tk_cur i2.2.1 hc
        rw [bd_e (cx_join i2.1.2.2.1 c3 b1)]
        have tot : pE (0, 0, st, de, sg, out) (L.drop k) = pE (1, 0, st4, de4, sg, out4) (L.drop k4) := by
          rw [q1, r2, ← i7]
          rfl
        have o4 : Off m m4 [x, x + 1, tk, pg, pg + 3, fa] := (((e3.tr f2).tr g3).tr i3).mono (by simp)
        have r4 : m4.2.2 = m.2.2 := by rw [i4, g5, f3, e4]
        have p4 : ∀ j, j ≠ 4 → gI m4 pg j = gI m pg j := fun j hj => by rw [i5 j hj, g4 j hj, f4 j hj, p1]
        unfold jI
        by_cases hj : jop c.1 = 0
        · rw [if_pos hj, if_pos rfl]
          obtain ⟨b5, m5, o5, j1, j2, j3, j4, j5, j6⟩ := cx_finish hD i2 hc hj (i8 c hc)
          rw [bd_e j1]
          exact ⟨b5, m5, k4, o5, rfl, by rw [tot, j2], (o4.tr j3).mono (by simp), by rw [j4, r4], fun j hj => by rw [j5 j hj, p4 j hj], i2.2.1.kept j3 (by simp; omega) (by simp; omega), by omega, j6⟩
        · have hj2 : ¬ nI (jop c.1) = -1 := by
            rcases jop_cases c.1 with q | q | q | q | q <;> rw [q] <;> first | exact absurd q hj | decide
          rw [if_neg hj, if_neg hj2]
          obtain ⟨s1, s2⟩ := cx_sign hD hE i2 hc hj
          by_cases h20 : 20 ≤ sg
          · obtain ⟨t1, t2⟩ := s1 h20
            rw [bd_e t1, if_neg (by decide)]
            exact ⟨false, m4, k4, out4, rfl, by rw [tot, t2], o4, r4, p4, i2.2.1, by omega, fun z => by cases z⟩
          · obtain ⟨m5, st5, de5, out5, t1, t2, t3, t4, t5, t6⟩ := s2 (by omega)
            rw [bd_e t1, if_pos rfl, nI_1]
            obtain ⟨b6, m6, k6, o6, u1, u2, u3, u4, u5, u6, u7, u8⟩ := ih (sg + 1) (k4 + 1) de5 st5 out5 m5 t2 (by omega)
            exact ⟨b6, m6, k6, o6, u1, by rw [tot, t6, u2], ((o4.tr t3).tr u3).mono (by simp), by rw [u4, t4, r4], fun j hj => by rw [u5 j hj, t5 j hj, p4 j hj], u6, by omega, u8⟩
/-- the reader of exps between two exps -/
def XB (G : GG) (m : MM) (x tk pg fa : Nat) : Prop := gR m x 0 = some (x + 1) ∧ G.2.2 (x + 1) = 26 ∧ gR m x 1 = some tk ∧ gR m x 2 = some pg ∧ gR m x 3 = some fa
def pX (l : List Tok) : Bool × List Op × List Tok := pE (0, 0, [], 0, 0, []) l
theorem cx_read {G : GG} {m : MM} {x tk pg fa so k : Nat} {L : List Tok} {C0 : List Int64} {F0 : Nat × Nat} (hD : DX x tk pg fa) (hE : EL L) (hso : so < 3) (hX : XB G m x tk pg fa) (hT : TK G m tk L k) (hC : CO G m pg C0) (hF : FS m fa F0) (hk : C0.length + 1 ≤ k) (hkl : k < L.length) : ∃ (b : Bool) (m1 : MM) (k1 : Nat) (o : List Op), M_X2_read G x (nI so) m = some (b, m1) ∧ pX (L.drop k) = (b, o, L.drop k1) ∧ Off m m1 [x, x + 1, tk, pg, pg + 3, fa] ∧ m1.2.2 = m.2.2 ∧ (∀ j, j ≠ 4 → gI m1 pg j = gI m pg j) ∧ TK G m1 tk L k1 ∧ k ≤ k1 ∧ (b = true → CO G m1 pg (C0 ++ o.map encOp ++ [lN 0]) ∧ FS m1 fa (nts so F0 o) ∧ C0.length + o.length + 1 ≤ k1) := by
  obtain ⟨x0, x1, x2, x3, x4⟩ := hX
  obtain ⟨n0, d1, d2, d3, d4⟩ := id hD
  unfold M_X2_read
  have o : Off m (sI (sI (sI (sI (sI m x 4 (nI so)) x 5 0) x 6 0) x 7 0) x 8 0) [x] := (((Off.sI.tr1 Off.sI).tr1 Off.sI).tr1 Off.sI).tr1 Off.sI
  have hEX : EX G (sI (sI (sI (sI (sI m x 4 (nI so)) x 5 0) x 6 0) x 7 0) x 8 0) x tk pg fa so L k [] 0 0 [] C0 F0 := by
    refine ⟨⟨x0, x1, x2, x3, x4, ?_, ?_, trivial, ?_, ?_, ?_, ?_⟩, hT.kept o (by simp; omega) (by simp; omega), hF.kept o (by simp; omega), ⟨trivial, fun y hy => by simp at hy, rfl, by omega, by omega⟩, by simp; omega, hkl⟩
    · rw [gI_sI_ne (Or.inr (by decide)), gI_sI_ne (Or.inr (by decide)), gI_sI_ne (Or.inr (by decide)), gI_sI_ne (Or.inr (by decide)), gI_sI_eq]
    · rw [gI_sI_ne (Or.inr (by decide)), gI_sI_ne (Or.inr (by decide)), gI_sI_ne (Or.inr (by decide)), gI_sI_eq]; rfl
    · rw [gI_sI_ne (Or.inr (by decide)), gI_sI_ne (Or.inr (by decide)), gI_sI_eq]; rfl
    · rw [gI_sI_ne (Or.inr (by decide)), gI_sI_eq]; rfl
    · rw [gI_sI_eq]; rfl
    · simpa using hC.kept o (by simp; omega) (by simp; omega)
  obtain ⟨b, m1, k1, o1, e1, e2, e3, e4, e5, e6, e7, e8⟩ := cx_loop hD hE hso FU 0 k 0 [] [] _ hEX (by unfold FU; omega)
  rw [nI_0] at e1
  exact ⟨b, m1, k1, o1, e1, e2, (o.tr e3).mono (by simp), e4, fun j hj => by rw [e5 j hj, o.I (by simp; omega)], e6, e7, e8⟩
