/-! ===== L2: the class's parser: bodies and constants ===== -/
def tt (m : MM) : Option (Bool × MM) := some (true, m)
def fft (m : MM) : Option (Bool × MM) := some (false, m)
theorem FM.mark {m : MM} {fa : Nat} {K : List Ko} {P : List Enm} {q : Ko} (h : FM m fa K P) (hq : badB q.2.2.1 q.1 = false) : FM m fa (K ++ [q]) P := by
  obtain ⟨N, a, b⟩ := h
  refine ⟨N, a, fun z => ?_⟩
  rw [b z]
  have : bdK (K ++ [q]) z ↔ bdK K z := by
    constructor
    · rintro ⟨o, ho, hb, rfl⟩
      rw [List.mem_append, List.mem_singleton] at ho
      rcases ho with ho | ho
      · exact ⟨o, ho, hb, rfl⟩
      · subst ho
        rw [hq] at hb
        cases hb
    · rintro ⟨o, ho, hb⟩
      exact ⟨o, by simp [ho], hb⟩
  rw [this]
/-- a mark is put: all but the bound -/
theorem PS.mark {G : GG} {m : MM} {n pg : Nat} {L : List Tok} {k op a : Nat} {K : List Ko} {P : List Enm} {q : Ko} (hN : PN n pg) (h : PS G m n pg L k K P) (hk : K.length < 2000) (h1 : op < 100) (h2 : a < 1000000) (he : encK q = lN (a * 16 + op)) (hq : badB q.2.2.1 q.1 = false) : ∃ m1, M_X6_put G pg (nI op) (nI a) m = some (true, m1) ∧ PC G m1 n pg ∧ LPg G m1 pg ∧ TK G m1 (n + 205) L k ∧ CO G m1 pg ((K ++ [q]).map encK) ∧ RP m1 pg P ∧ PB P ∧ FM m1 (n + 203) (K ++ [q]) P ∧ Off m m1 [pg, pg + 3] ∧ m1.2.2 = m.2.2 := by
  obtain ⟨p1, p2, p3, p4, p5, p6, p7, p8, p9⟩ := h
  have hN2 := hN
  unfold PN at hN2
  obtain ⟨m1, e1, e2, e3, e4, e5⟩ := co_put p4 (op := op) (a := a) (by rw [List.length_map]; exact hk) (by omega) (by omega)
  refine ⟨m1, e1, p1.eq e5, p2.eq e5, p3.kept e3 (by simp; omega) (by simp; omega), ?_, ⟨by rw [e4 3 (by decide)]; exact p5.1, fun e E hEe => ?_⟩, p6, (p7.kept e3 (by simp; omega)).mark hq, e3, e5⟩
  · rw [List.map_append, List.map_singleton, he]
    exact e2
  · have h61 := p6.1
    have := get_lt hEe
    exact ⟨by rw [e3.I (by simp)]; exact (p5.2 e E hEe).1, (p5.2 e E hEe).2.kept (fun a a1 a2 => (e3 a (by simp; omega)).1)⟩
theorem PS.mk1 {G : GG} {m : MM} {n pg : Nat} {L : List Tok} {k op a : Nat} {K : List Ko} {P : List Enm} {q : Ko} (hN : PN n pg) (h : PS G m n pg L k K P) (hk : K.length + 1 ≤ k) (h1 : op < 100) (h2 : a < 1000000) (he : encK q = lN (a * 16 + op)) (hq : badB q.2.2.1 q.1 = false) : ∃ m1, M_X6_put G pg (nI op) (nI a) m = some (true, m1) ∧ PS G m1 n pg L k (K ++ [q]) P ∧ Off m m1 [pg, pg + 3] ∧ m1.2.2 = m.2.2 := by
  have hl := h.2.2.1.1.2.2.2.1
  have hkl := h.2.2.2.2.2.2.2.2
  obtain ⟨m1, e1, e2, e3, e4, e5, e6, e7, e8, e9, e10⟩ := h.mark hN (by omega) h1 h2 he hq
  exact ⟨m1, e1, ⟨e2, e3, e4, e5, e6, e7, e8, by rw [List.length_append]; exact hk, hkl⟩, e9, e10⟩
theorem PS.mk2 {G : GG} {m : MM} {n pg : Nat} {L : List Tok} {k op a : Nat} {K : List Ko} {P : List Enm} {q : Ko} (hN : PN n pg) (hE : EL L) (h : PS G m n pg L k K P) {c : Tok} (hc : L[k]? = some c) (h130 : c.1 ≠ 130) (h1 : op < 100) (h2 : a < 1000000) (he : encK q = lN (a * 16 + op)) (hq : badB q.2.2.1 q.1 = false) : ∃ m1 m2, M_X6_put G pg (nI op) (nI a) m = some (true, m1) ∧ M_X9_advance G (n + 205) m1 = some (true, m2) ∧ PS G m2 n pg L (k + 1) (K ++ [q]) P ∧ OW m m2 n pg ∧ m1.2.2 = m.2.2 ∧ m2.2.2 = m.2.2 ∧ Off m m1 [pg, pg + 3] ∧ Off m1 m2 [n + 205] := by
  have hl := h.2.2.1.1.2.2.2.1
  have hkk := hE k c hc h130
  have hkb := h.2.2.2.2.2.2.2.1
  obtain ⟨m1, e1, e2, e3, e4, e5, e6, e7, e8, e9, e10⟩ := h.mark hN (by omega) h1 h2 he hq
  obtain ⟨m2, f1, f2, f3, f4⟩ := tk_advance e4 hkk
  have hN2 := hN
  unfold PN at hN2
  refine ⟨m1, m2, e1, f1, ⟨e2.eq f4, e3.eq f4, f2, e5.kept f3 (by simp; omega) (by simp; omega), ⟨by rw [f3.I (by simp; omega)]; exact e6.1, fun e E hEe => ?_⟩, e7, e8.kept f3 (by simp), by rw [List.length_append]; simp; exact hkb, hkk⟩, (e9.ow (by simp)).tr (f3.ow (by simp)), e10, f4.trans e10, e9, f3⟩
  have h61 := e7.1
  have := get_lt hEe
  exact ⟨by rw [f3.I (by simp; omega)]; exact (e6.2 e E hEe).1, (e6.2 e E hEe).2.kept (fun a a1 a2 => (f3 a (by simp; omega)).1)⟩
/-- the last enumeration is another -/
theorem PS.enum {G : GG} {m m1 : MM} {n pg : Nat} {L : List Tok} {k p : Nat} {K : List Ko} {Q : List Enm} {cs cs1 : List Con} {ms ms1 : List Mem} (hN : PN n pg) (h : PS G m n pg L k K (Q ++ [(p, cs, ms)])) (o : OR m m1 (pg + 4 + 12 * Q.length) (pg + 16 + 12 * Q.length)) (r : m1.2.2 = m.2.2) (hC : EC m1 (pg + 4 + 12 * Q.length) cs1 ms1) (hB : EB cs1 ms1) (hm : mkD ms1 = mkD ms) : PS G m1 n pg L k K (Q ++ [(p, cs1, ms1)]) ∧ OW m m1 n pg := by
  obtain ⟨p1, p2, p3, p4, p5, p6, p7, p8, p9⟩ := h
  have hN2 := hN
  unfold PN at hN2
  have hQ := p6.1
  rw [List.length_append, List.length_singleton] at hQ
  have hoff : Off m m1 (List.range' (pg + 4 + 12 * Q.length) 12) := fun a ha => o a (by
    rw [List.mem_range'_1] at ha
    omega)
  have nin : ∀ a, a < pg + 4 + 12 * Q.length ∨ pg + 16 + 12 * Q.length ≤ a → a ∉ List.range' (pg + 4 + 12 * Q.length) 12 := fun a ha z => by
    rw [List.mem_range'_1] at z
    omega
  refine ⟨⟨p1.eq r, p2.eq r, p3.kept hoff (nin _ (by omega)) (nin _ (by omega)), p4.kept hoff (nin _ (by omega)) (nin _ (by omega)), ⟨?_, fun e E hEe => ?_⟩, ⟨?_, fun E hEm => ?_⟩, ?_, p8, p9⟩, o.ow (by omega) (by omega)⟩
  · rw [o.I (by omega), p5.1]
    simp
  · rcases ap_get hEe with ⟨a, b⟩ | ⟨a, b⟩
    · obtain ⟨c1, c2⟩ := p5.2 e E (by rw [List.getElem?_append_left a]; exact b)
      exact ⟨by rw [o.I (by omega)]; exact c1, c2.kept (fun a a1 a2 => (o a (by omega)).1)⟩
    · subst a
      subst b
      obtain ⟨c1, c2⟩ := p5.2 Q.length _ get_app
      exact ⟨by rw [o.I (by omega)]; exact c1, hC⟩
  · rw [List.length_append]; exact hQ
  · rw [List.mem_append, List.mem_singleton] at hEm
    rcases hEm with z | z
    · exact p6.2 E (by simp [z])
    · subst z
      exact ⟨(p6.2 (p, cs, ms) (by simp)).1, hB⟩
  · obtain ⟨N, a, b⟩ := p7
    refine ⟨N, a.kept hoff (nin _ (by omega)), fun q => ?_⟩
    rw [b q]
    simp only [List.mem_append, List.mem_singleton, or_and_right, exists_or, exists_eq_left, hm]
theorem PS.last {G : GG} {m : MM} {n pg : Nat} {L : List Tok} {k p : Nat} {K : List Ko} {Q : List Enm} {cs : List Con} {ms : List Mem} (h : PS G m n pg L k K (Q ++ [(p, cs, ms)])) : EC m (pg + 4 + 12 * Q.length) cs ms ∧ EB cs ms ∧ LE G m (pg + 4 + 12 * Q.length) ∧ Q.length < 8 := by
  obtain ⟨p1, p2, p3, p4, p5, p6, p7, p8, p9⟩ := h
  have hQ := p6.1
  rw [List.length_append, List.length_singleton] at hQ
  exact ⟨(p5.2 Q.length _ get_app).2, (p6.2 (p, cs, ms) (by simp)).2, (p2.2.2.2.2 Q.length (by omega)).2, by omega⟩
theorem hasC {G : GG} {m : MM} {en i N : Nat} (h : gI m en 12 = nI N) (hi : i < N) (hN : N ≤ 12) : M_X1_hasConstant G en (nI i) m = some (true, m) := by
  unfold M_X1_hasConstant
  rw [if_neg (nI_pos (by omega)), h, if_neg (fun z => absurd ((nI_leI (by omega) (by omega)).mp z) (by omega)), show (12 : Int32) = nI 12 from rfl, if_neg (fun z => absurd ((nI_leI (by omega) (by omega)).mp z) (by omega))]
theorem hasF {G : GG} {m : MM} {en i N : Nat} (h : gI m en 14 = nI N) (hi : i < N) (hN : N ≤ 6) : M_X1_hasField G en (nI i) m = some (true, m) := by
  unfold M_X1_hasField
  rw [if_neg (nI_pos (by omega)), h, if_neg (fun z => absurd ((nI_leI (by omega) (by omega)).mp z) (by omega)), show (6 : Int32) = nI 6 from rfl, if_neg (fun z => absurd ((nI_leI (by omega) (by omega)).mp z) (by omega))]
theorem cp_gives {G : GG} {n pg en c : Nat} {L : List Tok} {P : List Enm} (hN : PN n pg) (hE : EL L) : ∀ (fu f i k : Nat) (m : MM) (K : List Ko), PS G m n pg L k K P → i + 1 ≤ k → L.length - k < fu → L.length - k < f → (∀ K1 r, pGv en c f K (L.drop k) = (some K1, r) → GD G n pg L k m (B_X5_readBody_66 G fu (n + 204) (nI i) m) tt K1 P r) ∧ ∀ r, pGv en c f K (L.drop k) = (none, r) → BA G n pg L m (B_X5_readBody_66 G fu (n + 204) (nI i) m) fft r := by
  intro fu
  induction fu with
  | zero => intro f i k m K _ _ hf; exact absurd hf (by omega)
  | succ fu ih =>
    intro f i k m K h hik hf hf2
    cases f with
    | zero => exact absurd hf2 (by omega)
    | succ f =>
      obtain ⟨t, ht, t3, t4, t5, b1, b2, b3, u1, u2, u3, u4⟩ := h.cur
      have hl := h.2.2.1.1.2.2.2.1
      have hkl := h.2.2.2.2.2.2.2.2
      rw [B_X5_readBody_66, show (2000 : Int32) = nI 2000 from rfl, if_neg (fun z => absurd ((nI_leI (by omega) (by omega)).mp z) (by omega)), nb_e h.1.1, t3, pGv, u1]
      by_cases q : t.1 = 128
      · rw [if_pos (show nI t.1 = 128 by rw [q]; rfl), if_pos q, u2, u4, nb_e h.1.2.2.1, t4]
        obtain ⟨m1, m2, e1, e2, e3, e4, e5, e6, -⟩ := h.mk2 hN hE ht (by omega) (op := 14) (a := t.2.1) (q := gvK en c t.2.1) (by omega) (by omega) rfl rfl
        rw [show (14 : Int32) = nI 14 from rfl, bd_e e1, nb_e (show gR m1 (n + 204) 0 = some (n + 205) by show m1.2.2 _ _ = _; rw [e5]; exact h.1.1), bd_e e2]
        have hx := cp_ex (A := fun m => B_X5_readBody_66 G fu (n + 204) (nI i + 1) m) (Bf := fft) (en := en) (so := 0) (c := c) hN hE (by omega) e3
        obtain ⟨x1, x2⟩ := hx
        have eq : ∀ Y, EQX G (n + 204) (nI 0) m2 (fun m => B_X5_readBody_66 G fu (n + 204) (nI i + 1) m) fft = Y → (nb (gR m2 (n + 204) 0) fun b_13 => bd (M_X9_take G b_13 61 m2) fun r_14 m_15 => if r_14 = true then nb (gR m_15 (n + 204) 1) fun b_16 => bd (M_X2_read G b_16 0 m_15) fun r_17 m_18 => if r_17 = true then nb (gR m_18 (n + 204) 0) fun b_19 => bd (M_X9_take G b_19 59 m_18) fun r_20 m_21 => if r_20 = true then B_X5_readBody_66 G fu (n + 204) (nI i + 1) m_21 else some (false, m_21) else some (false, m_18) else some (false, m_15)) = Y := fun Y hY => hY
        cases hp : pEx en 0 c (K ++ [gvK en c t.2.1]) (L.drop (k + 1)) with
        | mk o r =>
          cases o with
          | none =>
            refine ⟨fun K1 r z => by simp at z, fun r' z => ?_⟩
            cases z
            obtain ⟨m3, k3, y1, y2, y3, y4, y5⟩ := x2 r hp
            exact ⟨m3, k3, eq _ y1, y2, y3, e4.tr y4, y5.trans e6⟩
          | some K1 =>
            obtain ⟨m3, k3, y1, y2, y3, y4, y5, y6⟩ := x1 K1 r hp
            subst y3
            obtain ⟨z1, z2⟩ := ih f (i + 1) k3 m3 K1 y2 (by omega) (by omega) (by omega)
            rw [← nI_1] at z1 z2
            refine ⟨fun K2 r' z => ?_, fun r' z => ?_⟩
            · obtain ⟨m4, k4, w1, w2, w3, w4, w5, w6⟩ := z1 K2 r' z
              exact ⟨m4, k4, eq _ (y1.trans w1), w2, w3, (e4.tr y4).tr w4, w5.trans (y5.trans e6), by omega⟩
            · obtain ⟨m4, k4, w1, w2, w3, w4, w5⟩ := z2 r' z
              exact ⟨m4, k4, eq _ (y1.trans w1), w2, w3, (e4.tr y4).tr w4, w5.trans (y5.trans e6)⟩
      · rw [if_neg (k_ne 128 128 rfl (by omega) (by omega) q), if_neg q]
        obtain ⟨s1, s2⟩ := h.take hN hE (w := 125) (by omega) (by omega)
        rw [u1] at s1 s2
        by_cases q2 : t.1 = 125
        · obtain ⟨m1, e1, e2, e3, e4, e5⟩ := s1 q2
          rw [show (125 : Int32) = nI 125 from rfl, bd_e e1, if_pos q2, e5]
          refine ⟨fun K1 r z => ?_, fun r z => by simp at z⟩
          cases z
          exact ⟨m1, k + 1, rfl, e2, rfl, e3.ow (by simp), e4, by omega⟩
        · rw [show (125 : Int32) = nI 125 from rfl, bd_e (s2 q2), if_neg q2]
          refine ⟨fun K1 r z => by simp at z, fun r z => ?_⟩
          cases z
          exact ⟨m, k, rfl, h.w, rfl, OW.rf, rfl⟩
theorem EB.arg {cs : List Con} {ms : List Mem} {q q1 : Con} (h : EB (cs ++ [q]) ms) (h1 : q1.1 < 4096 ∧ q1.2.1 < 1000000000 ∧ q1.2.2 ≤ 1) : EB (cs ++ [q1]) ms := by
  obtain ⟨a1, a2, a3, a4, a5⟩ := h
  refine ⟨by rw [List.length_append] at a1 ⊢; exact a1, a2, a3, fun z hz => ?_, a5⟩
  rw [List.mem_append, List.mem_singleton] at hz
  rcases hz with y | y
  · exact a4 z (by simp [y])
  · exact y ▸ h1
theorem cp_arg {G : GG} {m : MM} {n pg k p pc : Nat} {L : List Tok} {K : List Ko} {Q : List Enm} {cs : List Con} (hN : PN n pg) (hE : EL L) (h : PS G m n pg L k K (Q ++ [(p, cs ++ [(pc, 0, 0)], [])])) (ho : gR m (n + 204) 4 = some (pg + 4 + 12 * Q.length)) : (∀ v r, pArg (L.drop k) = (some v, r) → v < 1000000000 ∧ GD G n pg L k m (M_X5_readArg G (n + 204) m) tt K (Q ++ [(p, cs ++ [(pc, v, 0)], [])]) r) ∧ ∀ r, pArg (L.drop k) = (none, r) → BA G n pg L m (M_X5_readArg G (n + 204) m) fft r := by
  obtain ⟨t, ht, t3, t4, t5, b1, b2, b3, u1, u2, u3, u4⟩ := h.cur
  unfold M_X5_readArg pArg
  rw [nb_e h.1.1, t3, u1]
  by_cases q : t.1 = 40
  · obtain ⟨m1, e1, e2, e3, e4⟩ := h.adv hN hE ht (by omega)
    have ho1 : gR m1 (n + 204) 4 = some (pg + 4 + 12 * Q.length) := by show m1.2.2 _ _ = _; rw [e4]; exact ho
    obtain ⟨l1, l2, l3, l4⟩ := e2.last
    have lc := l2.1
    rw [List.length_append, List.length_singleton] at lc
    have h12 : gI m1 (pg + 4 + 12 * Q.length) 12 = nI (cs.length + 1) := by rw [l1.2.1, List.length_append]; rfl
    have r1 := l3 1 (by omega)
    rw [show pg + 4 + 12 * Q.length + 1 + 1 = pg + 4 + 12 * Q.length + 2 by omega] at r1
    obtain ⟨t', ht', t3', t4', t5', b1', b2', b3', u1', u2', u3', u4'⟩ := e2.cur
    rw [if_pos (show nI t.1 = 40 by rw [q]; rfl), if_pos q, bd_e e1, nb_e ho1, h12, nI_pred, bd_e (hasC h12 (by omega) (by omega)), if_pos rfl, nb_e ho1, nb_e r1.1, nb_e e2.1.1, r1.2, show esz 1 = 12 from rfl, ib_n (by omega) (by omega), nI_clamp (by omega), t5', u4, u1', u3', u4']
    have hE2 := ec_setArg (v := t'.2.2) l1
    have oR : OR m1 (sI m1 (pg + 4 + 12 * Q.length + 2) cs.length (nI t'.2.2)) (pg + 4 + 12 * Q.length) (pg + 16 + 12 * Q.length) := Off.sI.or (by simp; omega)
    obtain ⟨s1, s2⟩ := PS.enum hN e2 oR rfl hE2 (l2.arg ⟨(l2.2.2.2.1 (pc, 0, 0) (by simp)).1, b3', by simp⟩) rfl
    have o1 : OW m (sI m1 (pg + 4 + 12 * Q.length + 2) cs.length (nI t'.2.2)) n pg := (e3.ow (by simp)).tr s2
    unfold B_X5_readArg_59
    obtain ⟨v1, v2⟩ := s1.take hN hE (w := 129) (by omega) (by omega)
    rw [u1'] at v1 v2
    rw [nb_e s1.1.1, show (129 : Int32) = nI 129 from rfl]
    by_cases q2 : t'.1 = 129
    · obtain ⟨m2, f1, f2, f3, f4, -⟩ := v1 q2
      rw [bd_e f1, if_pos rfl, if_pos q2, nb_e f2.1.1, show (41 : Int32) = nI 41 from rfl]
      obtain ⟨w1, w2⟩ := f2.take hN hE (w := 41) (by omega) (by omega)
      have o2 : OW m m2 n pg := o1.tr (f3.ow (by simp))
      have rr2 : m2.2.2 = m.2.2 := f4.trans e4
      by_cases q3 : hd (L.drop (k + 1 + 1)) = 41
      · obtain ⟨m3, g1, g2, g3, g4, g5⟩ := w1 q3
        rw [bd_e g1, if_pos rfl, if_pos q3, g5]
        refine ⟨fun v r z => ?_, fun r z => by simp at z⟩
        cases z
        exact ⟨b3', m3, k + 1 + 1 + 1, rfl, g2, rfl, o2.tr (g3.ow (by simp)), g4.trans rr2, by omega⟩
      · rw [bd_e (w2 q3), if_neg ff, if_neg q3]
        refine ⟨fun v r z => by simp at z, fun r z => ?_⟩
        cases z
        exact ⟨m2, k + 1 + 1, rfl, f2.w, rfl, o2, rr2⟩
    · rw [bd_e (v2 q2), if_neg ff, if_neg q2]
      refine ⟨fun v r z => by simp at z, fun r z => ?_⟩
      cases z
      exact ⟨_, k + 1, rfl, s1.w, rfl, o1, e4⟩
  · rw [if_neg (k_ne 40 40 rfl (by omega) (by omega) q), if_neg q]
    refine ⟨fun v r z => ?_, fun r z => by simp at z⟩
    cases z
    exact ⟨by omega, m, k, rfl, h, rfl, OW.rf, rfl, Nat.le_refl _⟩
theorem cp_body {G : GG} {m : MM} {n pg k p pc v : Nat} {L : List Tok} {K : List Ko} {Q : List Enm} {cs : List Con} (hN : PN n pg) (hE : EL L) (h : PS G m n pg L k K (Q ++ [(p, cs ++ [(pc, v, 0)], [])])) (ho : gR m (n + 204) 4 = some (pg + 4 + 12 * Q.length)) : (∀ b K1 r, pBdy Q.length cs.length K (L.drop k) = (some (b, K1), r) → GD G n pg L k m (M_X5_readBody G (n + 204) m) tt K1 (Q ++ [(p, cs ++ [(pc, v, b)], [])]) r) ∧ ∀ r, pBdy Q.length cs.length K (L.drop k) = (none, r) → BA G n pg L m (M_X5_readBody G (n + 204) m) fft r := by
  obtain ⟨t, ht, t3, t4, t5, b1, b2, b3, u1, u2, u3, u4⟩ := h.cur
  have hl := h.2.2.1.1.2.2.2.1
  unfold M_X5_readBody pBdy
  rw [nb_e h.1.1, t3, u1]
  by_cases q : t.1 = 123
  · obtain ⟨m1, e1, e2, e3, e4⟩ := h.adv hN hE ht (by omega)
    have ho1 : gR m1 (n + 204) 4 = some (pg + 4 + 12 * Q.length) := by show m1.2.2 _ _ = _; rw [e4]; exact ho
    obtain ⟨l1, l2, l3, l4⟩ := e2.last
    have lc := l2.1
    rw [List.length_append, List.length_singleton] at lc
    have h12 : gI m1 (pg + 4 + 12 * Q.length) 12 = nI (cs.length + 1) := by rw [l1.2.1, List.length_append]; rfl
    have r1 := l3 2 (by omega)
    rw [show pg + 4 + 12 * Q.length + 1 + 2 = pg + 4 + 12 * Q.length + 3 by omega] at r1
    have hE2 := ec_setBody (w := vp_nar .boolean 1) l1 rfl
    have oR : OR m1 (sI m1 (pg + 4 + 12 * Q.length + 3) cs.length (vp_nar .boolean 1)) (pg + 4 + 12 * Q.length) (pg + 16 + 12 * Q.length) := Off.sI.or (by simp; omega)
    have lb := l2.2.2.2.1 (pc, v, 0) (by simp)
    obtain ⟨s1, s2⟩ := PS.enum hN e2 oR rfl hE2 (l2.arg (q1 := (pc, v, 1)) ⟨lb.1, lb.2.1, by simp⟩) rfl
    rw [if_pos (show nI t.1 = 123 by rw [q]; rfl), if_pos q, bd_e e1, nb_e ho1, h12, nI_pred, bd_e (hasC h12 (by omega) (by omega)), if_pos rfl, nb_e ho1, nb_e r1.1, r1.2, show esz 2 = 12 from rfl, ib_n (by omega) (by omega), nI_clamp (by omega), u4, nb_e s1.1.2.2.1]
    have hkb := h.2.2.2.2.2.2.2.1
    obtain ⟨m2, f1, f2, f3, f4⟩ := s1.mk1 hN (op := 13) (a := cs.length) (q := bdyK Q.length cs.length) (by omega) (by omega) (by omega) rfl rfl
    rw [show (13 : Int32) = nI 13 from rfl, bd_e f1]
    have o2 : OW m m2 n pg := ((e3.ow (by simp)).tr s2).tr (f3.ow (by simp))
    have rr2 : m2.2.2 = m.2.2 := f4.trans e4
    have hk2 := f2.2.2.2.2.2.2.2.2
    obtain ⟨g1, g2⟩ := cp_gives (en := Q.length) (c := cs.length) hN hE FU 2002 0 (k + 1) m2 _ f2 (by omega) (by unfold FU; omega) (by omega)
    rw [nI_0] at g1 g2
    cases hp : pGv Q.length cs.length 2002 (K ++ [bdyK Q.length cs.length]) (L.drop (k + 1)) with
    | mk o r =>
      cases o with
      | none =>
        refine ⟨fun b K1 r z => by simp at z, fun r' z => ?_⟩
        cases z
        obtain ⟨m3, k3, y1, y2, y3, y4, y5⟩ := g2 r hp
        exact ⟨m3, k3, y1, y2, y3, o2.tr y4, y5.trans rr2⟩
      | some K1 =>
        refine ⟨fun b K2 r' z => ?_, fun r' z => by simp at z⟩
        cases z
        obtain ⟨m3, k3, y1, y2, y3, y4, y5, y6⟩ := g1 K1 r hp
        exact ⟨m3, k3, y1, y2, y3, o2.tr y4, y5.trans rr2, by omega⟩
  · rw [if_neg (k_ne 123 123 rfl (by omega) (by omega) q), if_neg q]
    refine ⟨fun b K1 r z => ?_, fun r z => by simp at z⟩
    cases z
    exact ⟨m, k, rfl, h, rfl, OW.rf, rfl, Nat.le_refl _⟩
theorem cp_cons {G : GG} {n pg p : Nat} {L : List Tok} {Q : List Enm} (hN : PN n pg) (hE : EL L) : ∀ (fu f k : Nat) (cs : List Con) (m : MM) (K : List Ko), PS G m n pg L k K (Q ++ [(p, cs, [])]) → gR m (n + 204) 4 = some (pg + 4 + 12 * Q.length) → 13 - cs.length < fu → 12 - cs.length < f → (∀ cs1 K1 r, pCs Q.length f cs K (L.drop k) = (some (cs1, K1), r) → GD G n pg L k m (B_X5_readConstants_17 G fu (n + 204) (nI cs.length) m) tt K1 (Q ++ [(p, cs1, [])]) r) ∧ ∀ r, pCs Q.length f cs K (L.drop k) = (none, r) → BA G n pg L m (B_X5_readConstants_17 G fu (n + 204) (nI cs.length) m) fft r := by
  intro fu
  induction fu with
  | zero => intro f k cs m K _ _ hf; exact absurd hf (by omega)
  | succ fu ih =>
    intro f k cs m K h ho hf hf2
    cases f with
    | zero => exact absurd hf2 (by omega)
    | succ f =>
      obtain ⟨t, ht, t3, t4, t5, b1, b2, b3, u1, u2, u3, u4⟩ := h.cur
      obtain ⟨l1, l2, l3, l4⟩ := h.last
      have lc := l2.1
      rw [B_X5_readConstants_17, show (12 : Int32) = nI 12 from rfl, if_neg (fun z => absurd ((nI_ltI (by omega) (by omega)).mp z) (by omega)), nb_e h.1.1, t3, pCs, u1, u2, u4]
      by_cases q : ¬ t.1 = 128
      · rw [if_neg (k_ne 128 128 rfl (by omega) (by omega) q), if_neg (fun z => q z.1)]
        refine ⟨fun cs1 K1 r z => by simp at z, fun r z => ?_⟩
        cases z
        exact ⟨m, k, rfl, h.w, rfl, OW.rf, rfl⟩
      have q : t.1 = 128 := Decidable.not_not.mp q
      rw [if_pos (show nI t.1 = 128 by rw [q]; rfl), nb_e ho, t4]
      by_cases hc : ¬ cs.length < 12
      · rw [bd_e (ec_fullConstant l1 (by omega) (by omega)), if_neg ff, if_neg (fun z => hc z.2)]
        refine ⟨fun cs1 K1 r z => by simp at z, fun r z => ?_⟩
        cases z
        exact ⟨m, k, rfl, h.w, rfl, OW.rf, rfl⟩
      have hc : cs.length < 12 := Decidable.not_not.mp hc
      obtain ⟨m1, e1, e2, e3, e4⟩ := ec_addConstant (p := t.2.1) l3 l1 hc
      have hEB : EB (cs ++ [(t.2.1, 0, 0)]) [] := by
        obtain ⟨a1, a2, a3, a4, a5⟩ := l2
        refine ⟨by rw [List.length_append]; exact hc, a2, a3, fun z hz => ?_, a5⟩
        rw [List.mem_append, List.mem_singleton] at hz
        rcases hz with y | y
        · exact a4 z y
        · subst y; exact ⟨b2, by simp, by simp⟩
      obtain ⟨s1, s2⟩ := PS.enum hN h (show OR m m1 (pg + 4 + 12 * Q.length) (pg + 16 + 12 * Q.length) from fun a ha => e3 a (by omega)) e4 e2 hEB rfl
      rw [bd_e e1, if_pos rfl, if_pos ⟨q, hc⟩, nb_e s1.1.1]
      obtain ⟨m2, f1, f2, f3, f4⟩ := s1.adv hN hE ht (by omega)
      have r2 : m2.2.2 = m.2.2 := f4.trans e4
      have o2 : OW m m2 n pg := s2.tr (f3.ow (by simp))
      have ho2 : gR m2 (n + 204) 4 = some (pg + 4 + 12 * Q.length) := by show m2.2.2 _ _ = _; rw [r2]; exact ho
      rw [bd_e f1, if_pos rfl]
      obtain ⟨g1, g2⟩ := cp_arg hN hE f2 ho2
      cases hp : pArg (L.drop (k + 1)) with
      | mk oa ra =>
        cases oa with
        | none =>
          obtain ⟨m3, k3, y1, y2, y3, y4, y5⟩ := g2 ra hp
          rw [y1]
          refine ⟨fun cs1 K1 r z => by simp at z, fun r' z => ?_⟩
          cases z
          exact ⟨m3, k3, rfl, y2, y3, o2.tr y4, y5.trans r2⟩
        | some v =>
          obtain ⟨hv, m3, k3, y1, y2, y3, y4, y5, y6⟩ := g1 v ra hp
          subst y3
          have r3 : m3.2.2 = m.2.2 := y5.trans r2
          have ho3 : gR m3 (n + 204) 4 = some (pg + 4 + 12 * Q.length) := by show m3.2.2 _ _ = _; rw [r3]; exact ho
          have o3 := o2.tr y4
          rw [show M_X5_readArg G (n + 204) m2 = some (true, m3) from y1, bd_e rfl, if_pos rfl]
          dsimp only
          obtain ⟨i1, i2⟩ := cp_body hN hE y2 ho3
          cases hpb : pBdy Q.length cs.length K (L.drop k3) with
          | mk ob rb =>
            cases ob with
            | none =>
              obtain ⟨m4, k4, w1, w2, w3, w4, w5⟩ := i2 rb hpb
              rw [w1]
              refine ⟨fun cs1 K1 r z => by simp at z, fun r' z => ?_⟩
              cases z
              exact ⟨m4, k4, rfl, w2, w3, o3.tr w4, w5.trans r3⟩
            | some bK =>
              obtain ⟨b, K1⟩ := bK
              obtain ⟨m4, k4, w1, w2, w3, w4, w5, w6⟩ := i1 b K1 rb hpb
              subst w3
              have r4 : m4.2.2 = m.2.2 := w5.trans r3
              have ho4 : gR m4 (n + 204) 4 = some (pg + 4 + 12 * Q.length) := by show m4.2.2 _ _ = _; rw [r4]; exact ho
              have o4 := o3.tr w4
              rw [show M_X5_readBody G (n + 204) m3 = some (true, m4) from w1, bd_e rfl, if_pos rfl]
              dsimp only
              obtain ⟨t', ht', t3', t4', t5', b1', b2', b3', u1', u2', u3', u4'⟩ := w2.cur
              rw [nb_e w2.1.1, t3', u1', u4']
              by_cases q44 : t'.1 = 44
              · obtain ⟨m5, j1, j2, j3, j4⟩ := w2.adv hN hE ht' (by omega)
                rw [if_pos (show nI t'.1 = 44 by rw [q44]; rfl), if_pos q44, bd_e j1]
                obtain ⟨z1, z2⟩ := ih f (k4 + 1) (cs ++ [(t.2.1, v, b)]) m5 K1 j2 (by show m5.2.2 _ _ = _; rw [j4, r4]; exact ho) (by rw [List.length_append]; simp; omega) (by rw [List.length_append]; simp; omega)
                rw [List.length_append, List.length_singleton, ← nI_1] at z1 z2
                refine ⟨fun cs1 K2 r' z => ?_, fun r' z => ?_⟩
                · obtain ⟨m6, k6, v1, v2, v3, v4, v5, v6⟩ := z1 cs1 K2 r' z
                  exact ⟨m6, k6, v1, v2, v3, (o4.tr (j3.ow (by simp))).tr v4, v5.trans (j4.trans r4), by omega⟩
                · obtain ⟨m6, k6, v1, v2, v3, v4, v5⟩ := z2 r' z
                  exact ⟨m6, k6, v1, v2, v3, (o4.tr (j3.ow (by simp))).tr v4, v5.trans (j4.trans r4)⟩
              · rw [if_neg (k_ne 44 44 rfl (by omega) (by omega) q44), if_neg q44]
                refine ⟨fun cs1 K2 r' z => ?_, fun r' z => by simp at z⟩
                cases z
                exact ⟨m4, k4, rfl, w2, rfl, o4, r4, by omega⟩
theorem cp_constants {G : GG} {m : MM} {n pg k p : Nat} {L : List Tok} {K : List Ko} {Q : List Enm} (hN : PN n pg) (hE : EL L) (h : PS G m n pg L k K (Q ++ [(p, [], [])])) (ho : gR m (n + 204) 4 = some (pg + 4 + 12 * Q.length)) : (∀ cs1 K1 r, pCns Q.length K (L.drop k) = (some (cs1, K1), r) → GD G n pg L k m (M_X5_readConstants G (n + 204) m) tt K1 (Q ++ [(p, cs1, [])]) r) ∧ ∀ r, pCns Q.length K (L.drop k) = (none, r) → BA G n pg L m (M_X5_readConstants G (n + 204) m) fft r := by
  obtain ⟨t, ht, t3, t4, t5, b1, b2, b3, u1, u2, u3, u4⟩ := h.cur
  unfold M_X5_readConstants pCns
  rw [nb_e h.1.1, t3, u1]
  by_cases q : t.1 = 128
  · rw [if_pos (show nI t.1 = 128 by rw [q]; rfl), if_pos q]
    have := cp_cons hN hE FU 14 k [] m K h ho (by unfold FU; simp) (by simp)
    rw [List.length_nil, nI_0] at this
    exact this
  · rw [if_neg (k_ne 128 128 rfl (by omega) (by omega) q), if_neg q]
    refine ⟨fun cs1 K1 r z => ?_, fun r z => by simp at z⟩
    cases z
    exact ⟨m, k, rfl, h, rfl, OW.rf, rfl, Nat.le_refl _⟩
