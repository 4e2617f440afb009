/-! ===== L2: the reference reads a text ===== -/
/-- between enumerations -/
def RU (G : GG) (m : MM) (d tt len : Nat) (B : Nat → Int32) (K : List Ko) (P : List Enm) (l : List Tok) : Prop := LM G m d ∧ TM m d tt len B ∧ By B len ∧ TL m d B len l ∧ RAF m d tt B (aK K) none ∧ gI m d 53 = nI 0 ∧ gI m d 46 = nI 0 ∧ QP m d tt B K P ∧ GV m d tt B K ∧ PB P ∧ (aK K).length + l.length ≤ 2001 ∧ 4 * (gvi 0 K).length + l.length ≤ 2001 ∧ K.length + l.length ≤ 2001
theorem RT.ru {G : GG} {m : MM} {d tt len : Nat} {B : Nat → Int32} {K : List Ko} {Q : List Enm} {E : Enm} {l : List Tok} (h : RT G m d tt len B K Q E l) : RU G m d tt len B K (Q ++ [E]) l := by
  obtain ⟨⟨g1, g2, g3, g4, g5, g6, g7, g8, g9, g10, g11⟩, h2, h3, h4, h5, h6⟩ := h
  exact ⟨g1, g2, g3, g4, g5, g6, g9, h2, h3, h4, by simp at g10; omega, h5, h6⟩
theorem RU.next {G : GG} {m : MM} {d tt len : Nat} {B : Nat → Int32} {K : List Ko} {P : List Enm} {l : List Tok} (h : RU G m d tt len B K P l) (hh : hd l ≠ 130) : ∃ m1, M_X11_next G d m = some ((), m1) ∧ RU G m1 d tt len B K P l.tail ∧ OE m m1 d tt ∧ l.tail.length + 1 = l.length := by
  obtain ⟨h1, h2, h3, h4, h5, h6, h7, h8, h9, h10, h11, h12, h13⟩ := h
  obtain ⟨m1, e1, e2, e3, e4⟩ := mm_nextL h3 h1 h2 h4 hh
  have oh : OE m m1 d tt := e2.oh (by simp)
  exact ⟨m1, e1, ⟨h1.oh oh, h2.oh oh, h3, e3, h5.kept (fun i _ _ _ => e2.2.2.1 _ (by omega) (by simp)), by rw [e2.I (by decide)]; exact h6, by rw [e2.I (by decide)]; exact h7, h8.oe oh, h9.oe oh, h10, by omega, by omega, by omega⟩, oh, e4⟩
def BF (m : MM) (d p : Nat) : Prop := gI m d 46 = nI 1 ∧ gI m d 47 = nI p ∧ gI m d 53 = nI 0
theorem RU.stop {G : GG} {m : MM} {d tt len : Nat} {B : Nat → Int32} {K : List Ko} {P : List Enm} {l : List Tok} (h : RU G m d tt len B K P l) : ∃ m1, M_X11_stop G d m = some ((), m1) ∧ OH m m1 d tt ∧ BF m1 d (plc l) := by
  obtain ⟨h1, h2, h3, h4, h5, h6, h7, h8, h9, h10, h11, h12, h13⟩ := h
  obtain ⟨c, rs, p1, z1, z2, -⟩ := id h4
  unfold M_X11_stop M_X11_isGood
  rw [h7, if_neg (by decide), bd_e rfl, if_pos rfl, gI_sI_ne (Or.inr (by decide)), z2.1]
  refine ⟨_, rfl, (OH.f (by omega) (by omega)).tr (OH.f (by omega) (by omega)), ?_⟩
  rw [z1]
  exact ⟨by rw [gI_sI_ne (Or.inr (by decide)), gI_sI_eq]; rfl, gI_sI_eq, by rw [gI_sI_ne (Or.inr (by decide)), gI_sI_ne (Or.inr (by decide))]; exact h6⟩
theorem RE.bf {G : GG} {m : MM} {d tt len e p : Nat} {B : Nat → Int32} {A : List Ko} {l : List Tok} (h : RE G m d tt len B e A [] l (some p)) : BF m d p := ⟨h.2.2.2.2.2.2.2.2.1.1, h.2.2.2.2.2.2.2.2.1.2, h.2.2.2.2.2.1⟩
theorem BF.bad {G : GG} {m : MM} {d p : Nat} (h : BF m d p) : M_X11_isGood G d m = some (false, m) := by
  unfold M_X11_isGood
  rw [h.1, if_pos (by decide)]
/-- an enumeration is begun -/
theorem RU.beg {G : GG} {m : MM} {d tt len : Nat} {B : Nat → Int32} {K : List Ko} {P : List Enm} {l : List Tok} (h : RU G m d tt len B K P l) (hP : P.length < 8) (hl : K.length + 1 + l.length ≤ 2001) (h128 : hd l = 128) : ∃ m1, sI (sI (sI (sI (sI (sI (sI (sI (sI m d 48 (nI (8 * tt + P.length))) (d + 4) (8 * tt + P.length) (nI (plc l))) (d + 5) (8 * tt + P.length) (nI (nl B (plc l)))) (d + 6) (8 * tt + P.length) 0) (d + 7) (8 * tt + P.length) 0) (d + 8) (8 * tt + P.length) 0) (d + 9) (8 * tt + P.length) (-1)) (d + 38) (8 * tt + P.length) (-1)) (d + 3) tt (nI (P.length + 1)) = m1 ∧ RT G m1 d tt len B (K ++ [enK P.length]) P (plc l, [], []) l ∧ OH m m1 d tt := by
  obtain ⟨m1, em⟩ : ∃ m1, sI (sI (sI (sI (sI (sI (sI (sI (sI m d 48 (nI (8 * tt + P.length))) (d + 4) (8 * tt + P.length) (nI (plc l))) (d + 5) (8 * tt + P.length) (nI (nl B (plc l)))) (d + 6) (8 * tt + P.length) 0) (d + 7) (8 * tt + P.length) 0) (d + 8) (8 * tt + P.length) 0) (d + 9) (8 * tt + P.length) (-1)) (d + 38) (8 * tt + P.length) (-1)) (d + 3) tt (nI (P.length + 1)) = m1 := ⟨_, rfl⟩
  refine ⟨m1, em, ?_, ?_⟩
  · obtain ⟨h1, h2, h3, h4, h5, h6, h7, h8, h9, h10, h11, h12, h13⟩ := h
    have ht := h2.2.1
    obtain ⟨c, rs, p1, z1, z2, z3, z4, z5, z6⟩ := id h4
    have hpl : plc l < 4096 := by rw [z1]; exact (z6 c (by rw [z1]; simp)).2.1
    have eaK : aK (K ++ [enK P.length]) = aK K := by rw [aK_app]; simp [aK, isA, enK]
    have egv : gvi 0 (K ++ [enK P.length]) = gvi 0 K := by rw [gvi_app]; simp [gvi, enK]
    have gd : ∀ j, j ≠ 48 → gI m1 d j = gI m d j := fun j hj => by rw [← em]; simp [gI_sI, hj]
    have off : ∀ a, a ≠ d → a ≠ d + 3 → a ≠ d + 4 → a ≠ d + 5 → a ≠ d + 6 → a ≠ d + 7 → a ≠ d + 8 → a ≠ d + 9 → a ≠ d + 38 → m1.1 a = m.1 a := fun a a0 a1 a2 a3 a4 a5 a6 a7 a8 => by
      rw [← em, (sI_off a1).1, (sI_off a8).1, (sI_off a7).1, (sI_off a6).1, (sI_off a5).1, (sI_off a4).1, (sI_off a3).1, (sI_off a2).1, (sI_off a0).1]
    have hre : RE G m1 d tt len B P.length (aK K) [] l none := by
      refine ⟨fun s hs => ⟨by rw [← em]; exact (h1 s hs).1, (h1 s hs).2⟩, ⟨by rw [gd 4 (by omega)]; exact h2.1, ht, by rw [gd 5 (by omega)]; exact h2.2.2.1, h2.2.2.2.1, fun i hi => ?_⟩, h3, h4.kept (fun k k1 k2 => gd k (by omega)), h5.kept (fun i i1 i2 i3 => off _ (by omega) (by omega) (by omega) (by omega) (by omega) (by omega) (by omega) (by omega) (by omega)), by rw [gd 53 (by omega)]; exact h6, trivial, by rw [← em]; simp [gI_sI], ?_, by simp; omega, hP⟩
      · rw [show gI m1 (d + 2) _ = gI m (d + 2) _ from congrFun (off (d + 2) (by omega) (by omega) (by omega) (by omega) (by omega) (by omega) (by omega) (by omega) (by omega)) _]
        exact h2.2.2.2.2 i hi
      · show gI m1 d 46 = nI 0
        rw [gd 46 (by omega)]
        exact h7
    have he : EO m m1 d (8 * tt + P.length) ∨ True := Or.inr trivial
    have hG : GV m1 d tt B K := h9.eq (fun i i1 i2 => off _ (by omega) (by omega) (by omega) (by omega) (by omega) (by omega) (by omega) (by omega) (by omega))
    refine ⟨by rw [eaK]; exact hre, QP.app ⟨?_, fun e E hE => ?_⟩, hG.app (by simp [enK]), ⟨by simp; omega, fun E hE => ?_⟩, by rw [egv]; exact h12, by rw [List.length_append, List.length_singleton]; omega⟩
    · rw [← em, gI_sI_eq, List.length_append, List.length_singleton]
    · rcases ap_get hE with ⟨a, b⟩ | ⟨a, b⟩
      · have o0 : EO m (sI m1 (d + 3) tt (nI P.length)) d (8 * tt + P.length) := by
          refine ⟨?_, fun o j x hj => ?_, fun o j x y _ => ?_, fun o j x y _ => ?_, fun o j x y _ => ?_⟩
          · funext j
            show gI (sI m1 (d + 3) tt (nI P.length)) (d + 3) j = gI m (d + 3) j
            by_cases q : j = tt
            · rw [q, gI_sI_eq, h8.1]
            · rw [gI_sI_ne (Or.inr q), ← em, gI_sI_ne (Or.inr q)]
              simp [gI_sI]
          · rw [gI_sI_ne (Or.inl (by omega)), ← em]
            simp only [gI_sI]
            rw [if_neg (by omega), if_neg (by omega), if_neg (by omega), if_neg (by omega), if_neg (by omega), if_neg (by omega), if_neg (by omega), if_neg (by omega), if_neg (by omega)]
          · rw [gI_sI_ne (Or.inl (by omega))]
            exact congrFun (off _ (by omega) (by omega) (by omega) (by omega) (by omega) (by omega) (by omega) (by omega) (by omega)) _
          · rw [gI_sI_ne (Or.inl (by omega))]
            exact congrFun (off _ (by omega) (by omega) (by omega) (by omega) (by omega) (by omega) (by omega) (by omega) (by omega)) _
          · rw [gI_sI_ne (Or.inl (by omega))]
            exact congrFun (off _ (by omega) (by omega) (by omega) (by omega) (by omega) (by omega) (by omega) (by omega) (by omega)) _
        have := (h8.2 e E b).other o0 (by omega) (h10.2 E (List.mem_of_getElem? b)).2
        exact this.eq (fun i i1 i2 => by rw [(sI_off (show d + i ≠ d + 3 by omega)).1])
      · subst a
        subst b
        have pl : plc l = c.2.1 := by rw [z1]; rfl
        refine ⟨by rw [← em]; simp [gI_sI], by rw [← em]; simp [gI_sI], ⟨by rw [← em]; simp [gI_sI]; rfl, fun c q hq => by simp at hq⟩, ⟨by rw [← em]; simp [gI_sI]; rfl, fun c q hq => by simp [mbs] at hq⟩, ⟨by rw [← em]; simp [gI_sI]; rfl, fun c q hq => by simp [fls] at hq⟩, ?_⟩
        show gI m1 (d + 9) _ = -1 ∧ gI m1 (d + 38) _ = -1
        rw [← em]
        simp [gI_sI]
    · rcases List.mem_append.mp hE with q | q
      · exact h10.2 E q
      · rw [List.mem_singleton] at q
        subst q
        exact ⟨hpl, by simp, by simp [mbs], by simp [fls], by simp, by simp⟩
  · rw [← em]
    exact ((((((((OH.f (by omega) (by omega)).tr (OH.e (by omega) hP)).tr (OH.e (by omega) hP)).tr (OH.e (by omega) hP)).tr (OH.e (by omega) hP)).tr (OH.e (by omega) hP)).tr (OH.e (by omega) hP)).tr (OH.e (by omega) hP)).tr (OH.a (by omega) (by omega) (by show 1 * tt ≤ tt; omega) (by show tt < 1 * tt + 1; omega))
/-- a text's result -/
def UG (G : GG) (m : MM) (d tt len : Nat) (B : Nat → Int32) (X : Option (Unit × MM)) (K : List Ko) (P : List Enm) (r : List Tok) : Prop := ∃ m1, X = some ((), m1) ∧ OH m m1 d tt ∧ RU G m1 d tt len B K P r
def UB (m : MM) (d tt : Nat) (X : Option (Unit × MM)) (r : List Tok) : Prop := ∃ m1, X = some ((), m1) ∧ OH m m1 d tt ∧ BF m1 d (plc r)
def pEr (P : List Enm) (p : Nat) (x : Option (List Con × List Ko) × List Tok) : Option (List Enm × List Ko) × List Tok := match x with
    | (none, r) => (none, r)
    | (some (cs, K1), l1) => match pMbs P.length K1 l1 with
      | (none, r) => (none, r)
      | (some (ms, K2), l2) => if hd l2 = 125 then (some (P ++ [(p, cs, ms)], K2), l2.tail) else (none, l2)
theorem pEn_eq (P : List Enm) (K : List Ko) (l : List Tok) : pEn P K l = if hd l = 128 ∧ P.length < 8 then (if hd l.tail = 123 then pEr P (plc l) (pCns P.length (K ++ [enK P.length]) l.tail.tail) else (none, l.tail)) else (none, l) := rfl
theorem mm_enum {G : GG} {m : MM} {d tt len : Nat} {B : Nat → Int32} {K : List Ko} {P : List Enm} {l : List Tok} (h : RU G m d tt len B K P l) (hl : K.length + 1 + l.length ≤ 2001) : (∀ P1 K1 r, pEn P K l = (some (P1, K1), r) → UG G m d tt len B (M_X11_readEnum G d m) K1 P1 r) ∧ ∀ r, pEn P K l = (none, r) → UB m d tt (M_X11_readEnum G d m) r := by
  have h0 := h
  obtain ⟨h1, h2, h3, h4, h5, h6, h7, h8, h9, h10, h11, h12, h13⟩ := h
  obtain ⟨c, rs, p1, z1, z2, z3, z4, z5, z6⟩ := id h4
  have ht := h2.2.1
  have c1 := (z6 c (by rw [z1]; simp)).1
  obtain ⟨-, d1, -⟩ := tc_all c.1 c1
  have hh : hd l = c.1 := by rw [z1]; rfl
  obtain ⟨mS, s1, s2, s3⟩ := h0.stop
  unfold M_X11_readEnum
  rw [z2.2.1, pEn_eq, hh]
  by_cases q : ¬ c.1 = 128
  · rw [if_neg (fun z => q z.1), if_neg (fun z => q (d1.mp z)), bd_e s1]
    refine ⟨fun P1 K1 r z => by simp at z, fun r z => ?_⟩
    cases z
    exact ⟨mS, rfl, s2, s3⟩
  have q : c.1 = 128 := Decidable.not_not.mp q
  have ct' : (nI tt).toNatClampNeg = tt := nI_clamp (by omega)
  have hPb := h10.1
  rw [if_pos (d1.mpr q), nb_e (mr_6 h1), mz_6 h1, h2.1, ib_n (by omega) (by omega), ct', h8.1]
  by_cases q8 : ¬ P.length < 8
  · rw [if_neg (fun z => q8 z.2), if_pos (by rw [show P.length = 8 by omega]; rfl), bd_e s1]
    refine ⟨fun P1 K1 r z => by simp at z, fun r z => ?_⟩
    cases z
    exact ⟨mS, rfl, s2, s3⟩
  have q8 : P.length < 8 := Decidable.not_not.mp q8
  rw [if_pos ⟨q, q8⟩, if_neg (k_ne (a := P.length) 8 8 rfl (by omega) (by omega) (by omega)), ib_n (by omega) (by omega)]
  have ek : (8 : Int32) * nI tt + nI P.length = nI (8 * tt + P.length) := by rw [show (8 : Int32) = nI 8 from rfl, pk_mul, nI_add]
  have ck : (nI (8 * tt + P.length)).toNatClampNeg = 8 * tt + P.length := nI_clamp (by omega)
  have gg : ∀ (mz : MM) (o k j : Nat) (v : Int32), gI (sI mz (d + (o + 1)) k v) d j = gI mz d j := fun mz o k j v => gI_sI_ne (Or.inl (by omega))
  have g48 : ∀ (mz : MM) (v : Int32), gI (sI mz d 48 v) d 48 = v := fun mz v => gI_sI_eq
  have g4 : ∀ (mz : MM) (v : Int32), gI (sI mz d 48 v) d 4 = gI mz d 4 := fun mz v => gI_sI_ne (Or.inr (by decide))
  have g42 : ∀ (mz : MM) (v : Int32), gI (sI mz d 48 v) d 42 = gI mz d 42 := fun mz v => gI_sI_ne (Or.inr (by decide))
  have g43 : ∀ (mz : MM) (v : Int32), gI (sI mz d 48 v) d 43 = gI mz d 43 := fun mz v => gI_sI_ne (Or.inr (by decide))
  simp only [ek, gR_sI, g48, ck]
  rw [nb_e (mr_7 h1), mz_7 h1, ib_n (by omega) (by omega)]
  simp only [gg _ 3, g48, g42, g43, g4, ck]
  rw [nb_e (mr_8 h1), mz_8 h1, ib_n (by omega) (by omega)]
  simp only [gg _ 3, gg _ 4, g48, g42, g43, g4, ck]
  rw [nb_e (mr_9 h1), mz_9 h1, ib_n (by omega) (by omega)]
  simp only [gg _ 3, gg _ 4, gg _ 5, g48, g42, g43, g4, ck]
  rw [nb_e (mr_10 h1), mz_10 h1, ib_n (by omega) (by omega)]
  simp only [gg _ 3, gg _ 4, gg _ 5, gg _ 6, g48, g42, g43, g4, ck]
  rw [nb_e (mr_11 h1), mz_11 h1, ib_n (by omega) (by omega)]
  simp only [gg _ 3, gg _ 4, gg _ 5, gg _ 6, gg _ 7, g48, g42, g43, g4, ck]
  rw [nb_e (mr_12 h1), mz_12 h1, ib_n (by omega) (by omega)]
  simp only [gg _ 3, gg _ 4, gg _ 5, gg _ 6, gg _ 7, gg _ 8, g48, g42, g43, g4, ck]
  rw [nb_e (mr_49 h1), mz_49 h1, ib_n (by omega) (by omega)]
  simp only [gg _ 3, gg _ 4, gg _ 5, gg _ 6, gg _ 7, gg _ 8, gg _ 37, g48, g42, g43, g4, ck, h2.1, z2.1, z2.2.2.2.2 (Or.inl q)]
  rw [nb_e (mr_6 h1), mz_6 h1, ib_n (by omega) (by omega), ib_n (by omega) (by omega)]
  have g3 : ∀ (mz : MM) (o k j : Nat) (v : Int32), gI (sI mz (d + (o + 4)) k v) (d + 3) j = gI mz (d + 3) j := fun mz o k j v => gI_sI_ne (Or.inl (by omega))
  have g3' : ∀ (mz : MM) (j : Nat) (v : Int32), gI (sI mz d 48 v) (d + 3) j = gI mz (d + 3) j := fun mz j v => gI_sI_ne (Or.inl (by omega))
  simp only [ct', g3 _ 0, g3 _ 1, g3 _ 2, g3 _ 3, g3 _ 4, g3 _ 5, g3 _ 34, g3', h8.1, nI_1]
  obtain ⟨mA, eA, hA, oA⟩ := h0.beg q8 hl (hh.trans q)
  have pl : plc l = c.2.1 := by rw [z1]; rfl
  rw [pl] at eA
  rw [eA]
  obtain ⟨mB, e1, e2, e3, e4, e5⟩ := hA.next (by omega)
  have oB := oA.tr e3.H
  rw [bd_e e1, show (123 : Int32) = nI 123 from rfl]
  obtain ⟨x1, x2⟩ := e2.need (w := 123) (by omega)
  by_cases q3 : ¬ hd l.tail = 123
  · obtain ⟨mC, f1, f2, f3⟩ := x2 q3
    rw [bd_e f1, bd_e f2.gF, if_neg ff, mm_193B f2, if_neg q3]
    refine ⟨fun P1 K1 r z => by simp at z, fun r z => ?_⟩
    cases z
    exact ⟨mC, rfl, oB.tr f3.H, f2.bf⟩
  have q3 : hd l.tail = 123 := Decidable.not_not.mp q3
  obtain ⟨mC, f1, f2, f3, f4, f5⟩ := x1 q3
  have oC := oB.tr f3.H
  rw [bd_e f1, bd_e f2.1.gT, if_pos rfl, if_pos q3]
  obtain ⟨t, rs2, el, y2, k1, k2, k3, k4⟩ := f2.1.tok
  have hh2 : hd l.tail.tail = t.1 := by rw [el]; rfl
  obtain ⟨-, d2, -⟩ := tc_all t.1 k1
  rw [y2.2.1]
  -- both ways to the rest
  have fin : ∀ {X : Option (Unit × MM)} {x : Option (List Con × List Ko) × List Tok}, ((∀ cs1 ms1 K1 r, pRs P.length x = (some (cs1, ms1, K1), r) → RG G mC d tt len B X K1 P (plc l, cs1, ms1) r) ∧ ∀ r, pRs P.length x = (none, r) → RB G mC d tt len B X P.length r) → (∀ P1 K1 r, pEr P (plc l) x = (some (P1, K1), r) → UG G m d tt len B X K1 P1 r) ∧ ∀ r, pEr P (plc l) x = (none, r) → UB m d tt X r := by
    intro X x ⟨w1, w2⟩
    have bad : ∀ r, pRs P.length x = (none, r) → UB m d tt X r := fun r z => by
      obtain ⟨mD, A, l1, g1, g2, g3⟩ := w2 r z
      exact ⟨mD, g1, oC.tr g2, g3.bf⟩
    have good : ∀ cs1 ms1 K1 r, pRs P.length x = (some (cs1, ms1, K1), r) → UG G m d tt len B X K1 (P ++ [(plc l, cs1, ms1)]) r := fun cs1 ms1 K1 r z => by
      obtain ⟨mD, g1, g2, g3⟩ := w1 cs1 ms1 K1 r z
      exact ⟨mD, g1, oC.tr g2, g3.ru⟩
    unfold pEr
    obtain ⟨o, l1⟩ := x
    cases o with
    | none =>
      refine ⟨fun P1 K1 r z => by simp at z, fun r z => ?_⟩
      cases z
      exact bad _ rfl
    | some ck =>
      obtain ⟨cs, K1⟩ := ck
      dsimp only
      unfold pRs pMc at bad good
      dsimp only at bad good
      cases hp : pMbs P.length K1 l1 with
      | mk o2 l2 =>
        rw [hp] at bad good
        cases o2 with
        | none =>
          refine ⟨fun P1 K1 r z => by simp at z, fun r z => ?_⟩
          cases z
          exact bad _ rfl
        | some mk =>
          obtain ⟨ms, K2⟩ := mk
          dsimp only at bad good ⊢
          by_cases q5 : hd l2 = 125
          · rw [if_pos q5] at bad good ⊢
            refine ⟨fun P1 K1 r z => ?_, fun r z => by simp at z⟩
            cases z
            exact good _ _ _ _ rfl
          · rw [if_neg q5] at bad good ⊢
            refine ⟨fun P1 K1 r z => by simp at z, fun r z => ?_⟩
            cases z
            exact bad _ rfl
  by_cases qN : t.1 = 128
  · rw [if_pos (d2.mpr qN)]
    refine fin (x := pCns P.length (K ++ [enK P.length]) l.tail.tail) ?_
    unfold pCns
    rw [if_pos (hh2.trans qN), show (14 : Nat) = 13 + 1 from rfl, pCs_eq]
    obtain ⟨u1, u2⟩ := mc_const f2
    cases hp : pC1 P.length [] (K ++ [enK P.length]) l.tail.tail with
    | mk o r =>
      cases o with
      | none =>
        refine ⟨fun cs1 ms1 K1 r z => by simp [pRs] at z, fun r' z => ?_⟩
        obtain ⟨m2, A, l1, g1, g2, g3⟩ := u2 r hp
        rw [bd_e g1]
        have er : r = r' := by
          unfold pRs at z
          cases z
          rfl
        subst er
        rw [show FU = (FU - 1) + 1 from rfl, mm_166B g3]
        exact ⟨m2, A, l1, rfl, g2, g3⟩
      | some x =>
        obtain ⟨cc, K1⟩ := x
        obtain ⟨m2, g1, g2, g3⟩ := u1 cc K1 r hp
        rw [bd_e g1]
        obtain ⟨v1, v2⟩ := mm_166 FU 13 m2 [cc] K1 r g3 (by unfold FU; simp) (by simp)
        exact ⟨fun cs2 ms2 K2 r2 z => (v1 cs2 ms2 K2 r2 z).tr g2, fun r2 z => (v2 r2 z).tr g2⟩
  · rw [if_neg (fun z => qN (d2.mp z))]
    refine fin (x := pCns P.length (K ++ [enK P.length]) l.tail.tail) ?_
    unfold pCns
    rw [if_neg (by rw [hh2]; exact qN)]
    exact mm_193r f2
theorem mm_44B {G : GG} {m : MM} {d p fu : Nat} (h : BF m d p) : B_X11_readText_44 G (fu + 1) d m = some ((), m) := by
  rw [B_X11_readText_44, bd_e h.bad, if_neg ff]
theorem pEn_len {P P1 : List Enm} {K K1 : List Ko} {l r : List Tok} (h : pEn P K l = (some (P1, K1), r)) : P1.length = P.length + 1 ∧ P.length < 8 := by
  unfold pEn at h
  by_cases c : hd l = 128 ∧ P.length < 8
  · rw [if_pos c] at h
    by_cases c2 : hd l.tail = 123
    · rw [if_pos c2] at h
      cases h1 : pCns P.length (K ++ [enK P.length]) l.tail.tail with
      | mk o r1 =>
        rw [h1] at h
        cases o with
        | none => simp at h
        | some x =>
          obtain ⟨cs, K2⟩ := x
          dsimp only at h
          cases h2 : pMbs P.length K2 r1 with
          | mk o2 r2 =>
            rw [h2] at h
            cases o2 with
            | none => simp at h
            | some y =>
              obtain ⟨ms, K3⟩ := y
              dsimp only at h
              by_cases c3 : hd r2 = 125
              · rw [if_pos c3] at h
                cases h
                exact ⟨by simp, c.2⟩
              · rw [if_neg c3] at h
                simp at h
    · rw [if_neg c2] at h
      simp at h
  · rw [if_neg c] at h
    simp at h
theorem mm_44 {G : GG} {d tt len : Nat} {B : Nat → Int32} : ∀ (fu f : Nat) (m : MM) (P : List Enm) (K : List Ko) (l : List Tok), RU G m d tt len B K P l → 9 < fu + P.length → 8 < f + P.length → (∀ P1 K1 r, pTx f P K l = (some (P1, K1), r) → UG G m d tt len B (B_X11_readText_44 G fu d m) K1 P1 r) ∧ ∀ r, pTx f P K l = (none, r) → UB m d tt (B_X11_readText_44 G fu d m) r := by
  intro fu
  induction fu with
  | zero =>
    intro f m P K l h h1 h2
    have : P.length ≤ 8 := h.2.2.2.2.2.2.2.2.2.1.1
    omega
  | succ fu ih =>
    intro f m P K l h h1 h2
    have hP : P.length ≤ 8 := h.2.2.2.2.2.2.2.2.2.1.1
    cases f with
    | zero => omega
    | succ f =>
      obtain ⟨c, rs, p1, z1, z2, z3, z4, z5, z6⟩ := id h.2.2.2.1
      have c1 := (z6 c (by rw [z1]; simp)).1
      obtain ⟨d0, -, -, d20, -⟩ := tc_all c.1 c1
      have hh : hd l = c.1 := by rw [z1]; rfl
      have gT : M_X11_isGood G d m = some (true, m) := by
        unfold M_X11_isGood
        rw [h.2.2.2.2.2.2.1, if_neg (by decide)]
      rw [B_X11_readText_44, bd_e gT, if_pos rfl, z2.2.1, pTx, hh]
      by_cases q0 : c.1 = 130
      · rw [if_pos (d0.mpr q0), if_pos q0]
        refine ⟨fun P1 K1 r z => ?_, fun r z => by simp at z⟩
        cases z
        exact ⟨m, rfl, OH.rf, h⟩
      rw [if_neg (fun z => q0 (d0.mp z)), if_neg q0]
      by_cases q1 : c.1 = 132
      · rw [if_pos (d20.mpr q1), if_pos q1]
        obtain ⟨m1, e1, e2, e3, e4⟩ := h.next (by omega)
        have hK := h.2.2.2.2.2.2.2.2.2.2.2.2
        rw [bd_e e1]
        obtain ⟨x1, x2⟩ := mm_enum e2 (by omega)
        cases hp : pEn P K l.tail with
        | mk o r =>
          cases o with
          | none =>
            refine ⟨fun P1 K1 r z => by simp at z, fun r' z => ?_⟩
            cases z
            obtain ⟨m2, f1, f2, f3⟩ := x2 r hp
            rw [bd_e f1]
            cases fu with
            | zero => omega
            | succ fu =>
              rw [mm_44B f3]
              exact ⟨m2, rfl, e3.H.tr f2, f3⟩
          | some x =>
            obtain ⟨P1, K1⟩ := x
            obtain ⟨m2, f1, f2, f3⟩ := x1 P1 K1 r hp
            rw [bd_e f1]
            have hl := pEn_len hp
            obtain ⟨y1, y2⟩ := ih f m2 P1 K1 r f3 (by omega) (by omega)
            refine ⟨fun P2 K2 r2 z => ?_, fun r2 z => ?_⟩
            · obtain ⟨m3, g1, g2, g3⟩ := y1 P2 K2 r2 z
              exact ⟨m3, g1, (e3.H.tr f2).tr g2, g3⟩
            · obtain ⟨m3, g1, g2, g3⟩ := y2 r2 z
              exact ⟨m3, g1, (e3.H.tr f2).tr g2, g3⟩
      · rw [if_neg (fun z => q1 (d20.mp z)), if_neg q1]
        refine ⟨fun P1 K1 r z => by simp at z, fun r z => ?_⟩
        cases z
        obtain ⟨m1, e1, e2, e3⟩ := h.stop
        rw [bd_e e1]
        cases fu with
        | zero => omega
        | succ fu =>
          rw [mm_44B e3]
          exact ⟨m1, rfl, e2, e3⟩
theorem mm_readText {G : GG} {m : MM} {d tt len : Nat} {B : Nat → Int32} (hL : LM G m d) (hT : TM m d tt len B) (hB : By B len) (h53 : gI m d 53 = nI 0) : (∀ P K r, pTx 9 [] [] (tks B len 0) = (some (P, K), r) → UG G m d tt len B (M_X11_readText G d m) K P r) ∧ ∀ r, pTx 9 [] [] (tks B len 0) = (none, r) → UB m d tt (M_X11_readText G d m) r := by
  have ht := hT.2.1
  have ct' : (nI tt).toNatClampNeg = tt := nI_clamp (by omega)
  have gg : ∀ (mz : MM) (o k j : Nat) (v : Int32), gI (sI mz (d + (o + 1)) k v) d j = gI mz d j := fun mz o k j v => gI_sI_ne (Or.inl (by omega))
  unfold M_X11_readText
  simp only [gR_sI]
  rw [nb_e (mr_6 hL), mz_6 hL, hT.1, ib_n (by omega) (by omega), ct']
  simp only [gg _ 2, hT.1, ct']
  rw [nb_e (mr_27 hL), mz_27 hL, ib_n (by omega) (by omega)]
  simp only [gg _ 2, gg _ 23, hT.1, ct']
  rw [nb_e (mr_33 hL), mz_33 hL, ib_n (by omega) (by omega)]
  obtain ⟨m1, em⟩ : ∃ m1, sI (sI (sI (sI (sI m (d + 3) tt 0) (d + 24) tt 0) (d + 30) tt 0) d 46 0) d 41 0 = m1 := ⟨_, rfl⟩
  rw [em]
  have oA : OH m m1 d tt := by
    rw [← em]
    exact (((((OH.a (by omega) (by omega) (by show 1 * tt ≤ tt; omega) (by show tt < 1 * tt + 1; omega))).tr (OH.a (by omega) (by omega) (by show 1 * tt ≤ tt; omega) (by show tt < 1 * tt + 1; omega))).tr (OH.a (by omega) (by omega) (by show 1 * tt ≤ tt; omega) (by show tt < 1 * tt + 1; omega))).tr (OH.f (by omega) (by omega))).tr (OH.f (by omega) (by omega))
  have hL1 : LM G m1 d := fun s hs => ⟨by rw [← em]; exact (hL s hs).1, (hL s hs).2⟩
  have hT1 : TM m1 d tt len B := by
    obtain ⟨t1, t2, t3, t4, t5⟩ := hT
    refine ⟨by rw [oA.2.2.2.1 4 (by omega)]; exact t1, t2, by rw [oA.2.2.2.1 5 (by omega)]; exact t3, t4, fun i hi => ?_⟩
    rw [show gI m1 (d + 2) _ = gI m (d + 2) _ from congrFun (oA.2.2.1 (d + 2) (by omega)) _]
    exact t5 i hi
  obtain ⟨m2, p1, c, rs, e1, e2, e3, e4, e5, e6, e7, e8⟩ := mm_next (p := 0) hB hL1 hT1 (by rw [← em, gI_sI_eq]; rfl) (by omega)
  rw [bd_e e1]
  have oB : OE m1 m2 d tt := e2.oh (by simp)
  have hbd := tks_bd hT.2.2.2.1 hB len 0 rfl
  have hlen := tks_len hT.2.2.2.1 len 0 rfl
  have hTx := hT.2.2.2.1.1
  have hR : RU G m2 d tt len B [] [] (tks B len 0) := by
    refine ⟨hL1.oh oB, hT1.oh oB, hB, ⟨c, rs, p1, e3, e4, e5, e6, e7, hbd⟩, ⟨?_, fun _ j q hq => by simp [aK] at hq⟩, ?_, ?_, ⟨?_, fun e E hE => by simp at hE⟩, ⟨?_, fun g x hx => by simp [gvi] at hx⟩, ⟨by simp, by simp⟩, by simp [aK]; omega, by simp [gvi]; omega, by simp; omega⟩
    · rw [e2.A (by decide) (by simp), ← em]
      simp [gI_sI, aK]
      rfl
    · rw [e2.I (by decide), ← em]
      simp [gI_sI]
      exact h53
    · rw [e2.I (by decide), ← em]
      simp [gI_sI]
      rfl
    · rw [e2.A (by decide) (by simp), ← em]
      simp [gI_sI]
      rfl
    · rw [e2.A (by decide) (by simp), ← em]
      simp [gI_sI, gvi]
      rfl
  obtain ⟨x1, x2⟩ := mm_44 FU 9 m2 [] [] (tks B len 0) hR (by unfold FU; simp) (by simp)
  refine ⟨fun P K r z => ?_, fun r z => ?_⟩
  · obtain ⟨m3, g1, g2, g3⟩ := x1 P K r z
    exact ⟨m3, g1, (oA.tr oB.H).tr g2, g3⟩
  · obtain ⟨m3, g1, g2, g3⟩ := x2 r z
    exact ⟨m3, g1, (oA.tr oB.H).tr g2, g3⟩
