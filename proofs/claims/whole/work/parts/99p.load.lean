/-! ===== L2: load, in the class ===== -/
theorem cb_bind {G : GG} {m : MM} {n pg tp len k1 : Nat} {B : Nat → Int32} {P : List Enm} {K : List Ko} {L r : List Tok} (hN : PN n pg) (htp : TT n tp) (hps : PS G m n pg L k1 K P) (h5 : gR m pg 5 = some tp) (hT : TP G m tp len B) (hF : FI P K r) (h12 : T12 P.length K) : ∃ m1 F1 gc1, M_X0_bind G (n + 209) pg (n + 203) m = some ((), m1) ∧ CV G m1 pg tp len B P (K.map (bcd B P)) gc1 ∧ GP B P (gvi 0 K) gc1 ∧ FS m1 (n + 203) F1 ∧ MF (NC B gc1 K P) F1 ∧ OB m m1 n pg ∧ CSg m1 pg P gz := by
  obtain ⟨p1, p2, p3, p4, p5, p6, p7, p8, p9⟩ := hps
  obtain ⟨f1, f2, f3, f4, fa, fb, f5⟩ := hF
  have hN2 := hN
  have ht2 := htp
  unfold PN at hN2
  unfold TT at ht2
  have hKl : K.length ≤ 2000 := by
    have := p4.2.2.2.1
    rw [List.length_map] at this
    exact this
  obtain ⟨m0, em⟩ : ∃ m0, sI (sI (sR (sR (sR m (n + 209) 0 (some pg)) (n + 209) 1 (some (n + 203))) (n + 209) 2 none) (n + 209) 3 0) (n + 209) 4 (bz false) = m0 := ⟨_, rfl⟩
  have o : Off m m0 [n + 209] := by rw [← em]; exact (((Off.sR.tr1 Off.sR).tr1 Off.sR).tr1 Off.sI).tr1 Off.sI
  have hV : CV G m pg tp len B P (CK B P K 0) (fun _ _ _ => -1) := by
    refine ⟨p2, h5, hT, ?_, p5.1, p6, fun e E hE => ?_⟩
    · unfold CK
      rw [List.take_zero, List.drop_zero]
      exact p4
    · obtain ⟨a1, a2⟩ := p5.2 e E hE
      refine ⟨a1, a2.b.1, fun c i hc hi => ?_⟩
      obtain ⟨q, hq⟩ := lt_get hc
      exact (a2.2.2.2.2.2.2.2.2.1 c q hq).2.2.2.2 i hi
  have hV0 := hV.off o (by simp; omega)
  have rr : ∀ j, gR m0 (n + 209) j = if j = 2 then none else if j = 1 then some (n + 203) else if j = 0 then some pg else gR m (n + 209) j := fun j => by
    rw [← em]
    show gR (sR (sR (sR m (n + 209) 0 (some pg)) (n + 209) 1 (some (n + 203))) (n + 209) 2 none) (n + 209) j = _
    rw [gR_sR, gR_sR, gR_sR]
    simp
  have hb : BR m0 n pg s0 := ⟨by rw [rr]; rfl, by rw [rr]; rfl, by rw [rr]; rfl, by rw [← em, gI_sI_ne (Or.inr (by omega)), gI_sI_eq]; rfl, by rw [← em, gI_sI_eq]; rfl⟩
  obtain ⟨N, n1, n2⟩ := p7
  have hM : MF (fun x => bdK K x ∨ ∃ E ∈ P, x ∈ mkD E.2.2) (N.foldl ntF (0, 0)) := (MF.fold N MF.nil (fun q hq => by
    rcases (n2 q).mp hq with ⟨o, -, -, e⟩ | ⟨E, -, e⟩
    · rw [e]; exact (by decide : (6 : Nat) ≠ 0)
    · unfold mkD at e
      obtain ⟨x, -, e⟩ := List.mem_map.mp e
      rw [← e]
      exact (by decide : (2 : Nat) ≠ 0))).cg (fun q => by rw [← n2 q]; simp)
  obtain ⟨m1, F1, gc1, e1, e2, e3, e4, e5, e6⟩ := bind_27 hN htp f5 f2 f3 hKl h12 FU 0 m0 _ _ s0 (fun _ _ _ => -1) hV0 hb (n1.kept o (by simp)) hM (fun e c i => Or.inl ⟨rfl, fun x hx => by simp [gvi] at hx⟩) rfl (by unfold FU; omega) (by omega)
  have ob : OB m m0 n pg := ⟨fun a _ y _ => (o a (by simp; exact y)).1, fun a _ _ => by rw [← em]; rfl, fun a y => (o a (by simp; exact y)).2.2⟩
  have obb := ob.tr e6
  refine ⟨m1, F1, gc1, by unfold M_X0_bind; rw [em, show (0 : Int32) = nI 0 from nI_0.symm]; exact e1, e2, e3, e4, e5, obb, fun e E hE => ?_⟩
  obtain ⟨-, a2⟩ := p5.2 e E hE
  have he : e < 8 := by have := get_lt hE; have := p6.1; omega
  have I : ∀ i, i = 0 ∨ i = 9 ∨ i = 10 → ∀ j, gI m1 (pg + 4 + 12 * e + i) j = gI m (pg + 4 + 12 * e + i) j := fun i hi j => congrFun (obb.1 _ (by omega) (by omega) (fun e' he' => by omega)) j
  have I0 := I 0 (Or.inl rfl)
  rw [Nat.add_zero] at I0
  obtain ⟨v1, v2, v3⟩ := a2.b.2
  refine ⟨by rw [I0, v1]; rfl, by rw [I0, v2]; show (0 : Int32) = nI (min 0 _); rw [Nat.zero_min, nI_0], fun c hc => ?_, fun i q hq => by rw [I 9 (by omega), v3 i q hq]; rfl⟩
  obtain ⟨q, hq⟩ := lt_get hc
  rw [I 10 (by omega)]
  exact (a2.2.2.2.2.2.2.2.2.1 c q hq).2.2.2.1
/-- what load has changed before it ends -/
def LF (m m1 : MM) (n ps : Nat) : Prop := ∀ a, a < ps ∨ ps + 100 ≤ a → a < n + 203 ∨ n + 210 ≤ a → m1.1 a = m.1 a ∧ m1.2.1 a = m.2.1 a ∧ m1.2.2 a = m.2.2 a
theorem LF.tr {m m1 m2 : MM} {n ps : Nat} (h : LF m m1 n ps) (h2 : LF m1 m2 n ps) : LF m m2 n ps := fun a x y => ⟨(h2 a x y).1.trans (h a x y).1, (h2 a x y).2.1.trans (h a x y).2.1, (h2 a x y).2.2.trans (h a x y).2.2⟩
def LRf (m m1 : MM) (n ps : Nat) : Prop := ∀ a j, a < n + 204 ∨ n + 207 < a → a ≠ n + 209 → ¬ (a = ps ∧ j = 5) → gR m1 a j = gR m a j
theorem LRf.tr {m m1 m2 : MM} {n ps : Nat} (h : LRf m m1 n ps) (h2 : LRf m1 m2 n ps) : LRf m m2 n ps := fun a j x y z => (h2 a j x y z).trans (h a j x y z)
theorem ly_load {G : GG} {m m1 : MM} {n ps : Nat} (hN : PN n ps) (h : LY G m n) (hS : ST G m1 n) (o : LRf m m1 n ps) : LY G m1 n := by
  unfold PN at hN
  refine h.kept (fun a j hz => ?_)
  obtain ⟨s1, s2, s3, -, s5, -⟩ := h.2.2.1
  obtain ⟨t1, t2, t3, -, t5, -⟩ := hS
  unfold PN TT at hz
  by_cases w1 : a = n + 204
  · rcases (show j = 0 ∨ j = 1 by omega) with w | w
    · rw [w1, w, s1, t1]
    · rw [w1, w, s2, t2]
  · by_cases w2 : a = n + 205
    · rw [w2, show j = 0 by omega, s3, t3]
    · by_cases w3 : a = n + 207
      · rw [w3, show j = 0 by omega, s5, t5]
      · exact o a j (by omega) (by omega) (by omega)
/-- the loaded part is as it was -/
theorem zc_load {G : GG} {m m1 : MM} {n pl ps tp tl lenT : Nat} {BT : Nat → Int32} {len : Nat} {B : Nat → Int32} {P : List Enm} {K : List Ko} {gc : Nat → Nat → Nat → Int32} {g : Sg} {he : Nat} {hs : List Nat} {ca : Nat} {fc : Int32} {F F' : Nat × Nat} (hA : ZA n pl ps tp tl) (h : ZC G m n pl ps tp tl lenT BT len B P K gc g he hs ca fc F) (hS : ST G m1 n) (o : LF m m1 n ps) (o2 : LRf m m1 n ps) (hf0 : gI m1 (n + 203) 0 = nI F'.1) (hf1 : gI m1 (n + 203) 1 = nI F'.2) : ZC G m1 n pl ps tp tl lenT BT len B P K gc g he hs ca fc F' := by
  obtain ⟨h1, ⟨h2, h3, h4⟩, h5, h6, h7, h8, ⟨h9, h10, h11⟩, ⟨h12, h13⟩, h14, h15⟩ := h
  obtain ⟨z1, z2, z3, z4, z5, z6⟩ := hA
  have hLY := ly_load z2 h1 hS o2
  have hP8 := h5.2.2.2.2.2.1.1
  have w1 := z1
  have w2 := z2
  unfold PN at w1 w2
  unfold TT at z4 z5
  have I : ∀ a, a < ps ∨ ps + 100 ≤ a → a < n + 203 ∨ n + 210 ≤ a → ∀ j, gI m1 a j = gI m a j := fun a x y j => congrFun (o a x y).1 j
  have Lg : ∀ a, a < ps ∨ ps + 100 ≤ a → a < n + 203 ∨ n + 210 ≤ a → ∀ j, gL m1 a j = gL m a j := fun a x y j => congrFun (o a x y).2.1 j
  have tpk : ∀ {t l : Nat} {b : Nat → Int32}, t = n + 201 ∨ t = n + 214 → TP G m t l b → TP G m1 t l b := fun {t l b} ht hT => by
    obtain ⟨t1, t2, t3, t4, t5, t6⟩ := hT
    exact ⟨by rw [o2 _ _ (by omega) (by omega) (by omega)]; exact t1, t2, by rw [I _ (by omega) (by omega)]; exact t3, t4, fun i hi => by rw [I _ (by omega) (by omega)]; exact t5 i hi, t6⟩
  have hCV : CV G m1 pl tl len B P (K.map (bcd B P)) gc := by
    obtain ⟨a1, a2, a3, a4, a5, a6, a7⟩ := h5
    obtain ⟨c1, c2, c3, c4, c5⟩ := a4
    refine ⟨(hLY.2.2.2.1 pl z1).1, by rw [o2 _ _ (by omega) (by omega) (by omega)]; exact a2, tpk z5 a3, ⟨(hLY.2.2.2.1 pl z1).2.1, c2, by rw [I _ (by omega) (by omega)]; exact c3, c4, fun j v hj => by rw [Lg _ (by omega) (by omega)]; exact c5 j v hj⟩, by rw [I _ (by omega) (by omega)]; exact a5, a6, fun e E hE => ?_⟩
    obtain ⟨e1, e2, e3⟩ := a7 e E hE
    have he : e < 8 := by have := get_lt hE; omega
    exact ⟨by rw [I _ (by omega) (by omega)]; exact e1, e2.kept (fun j _ _ => I _ (by omega) (by omega) j) (fun i hi => (o _ (by omega) (by omega)).1), fun c i hc h8 => by rw [I _ (by omega) (by omega)]; exact e3 c i hc h8⟩
  exact ⟨hLY, ⟨by rw [o2 _ _ (by omega) (by omega) (by omega)]; exact h2, by rw [o2 _ _ (by omega) (by omega) (by omega)]; exact h3, by rw [o2 _ _ (by omega) (by omega) (by omega)]; exact h4⟩, hCV, tpk z4 h6, h7.eq (fun e he => ⟨(o _ (by omega) (by omega)).1, (o _ (by omega) (by omega)).1, (o _ (by omega) (by omega)).1⟩), ⟨by rw [I _ (by omega) (by omega)]; exact h8.1, h8.2.1, fun k v hk => by rw [I _ (by omega) (by omega)]; exact h8.2.2 k v hk⟩, ⟨by rw [I _ (by omega) (by omega)]; exact h9, by rw [I _ (by omega) (by omega)]; exact h10, fun i c hc => by rw [I _ (by omega) (by omega)]; exact h11 i c hc⟩, ⟨by rw [I _ (by omega) (by omega)]; exact h12, by rw [I _ (by omega) (by omega)]; exact h13⟩, hf0, hf1⟩
/-- a load with a fault ends -/
theorem cl_bad {G : GG} {m : MM} {n pl ps tp tl lenT : Nat} {BT : Nat → Int32} {len : Nat} {B : Nat → Int32} {P : List Enm} {K : List Ko} {gc : Nat → Nat → Nat → Int32} {g : Sg} {he : Nat} {hs : List Nat} {ca : Nat} {fc : Int32} {F : Nat × Nat} (hA : ZA n pl ps tp tl) (h : ZC G m n pl ps tp tl lenT BT len B P K gc g he hs ca fc F) (hF : F.1 ≠ 0) (hF2 : F.1 < 100) : ∃ m1, B_X10_load_51 G n m = some (-10 - nI F.1, m1) ∧ ZC G m1 n pl ps tp tl 0 (fun i => if i < 0 then BT i else -1) len B P K gc g he hs ca fc F ∧ OU m m1 (n + 216) := by
  have hTT := hA.2.2.2.1
  unfold TT at hTT
  obtain ⟨q1, q2⟩ := h.tape (m1 := sI m tp 1 0) hA (Off.sI.mono (by simp)) rfl (by rw [show (0 : Int32) = nI 0 from nI_0.symm]; exact h.2.2.2.1.cut (Nat.zero_le _))
  refine ⟨_, ?_, q1, q2⟩
  unfold B_X10_load_51
  rw [nb_e h.1.1.1, h.2.2.2.2.2.2.2.2.1, if_neg (kne (v := 0) (b := 0) nI_0.symm (by omega) (by omega) hF), nb_e h.2.1.2.2, nb_e (show gR (sI m tp 1 0) n 3 = some (n + 203) from h.1.1.1), gI_sI_ne (Or.inl (by omega)), h.2.2.2.2.2.2.2.2.1]
theorem cl_good {G : GG} {m : MM} {n pl ps tp tl lenT len : Nat} {BT B : Nat → Int32} {P P' : List Enm} {K K' : List Ko} {gc gc' : Nat → Nat → Nat → Int32} {g : Sg} {he : Nat} {hs : List Nat} {ca : Nat} {fc : Int32} {F : Nat × Nat} (hA : ZA n pl ps tp tl) (h : ZC G m n pl ps tp tl lenT BT len B P K gc g he hs ca fc F) (hF : F.1 = 0) (hV : CV G m ps tp lenT BT P' (K'.map (bcd BT P')) gc') (hSg : CSg m ps P' gz) : ∃ m1, B_X10_load_51 G n m = some (nI P'.length, m1) ∧ ZC G m1 n ps pl tl tp 0 (fun _ => -1) lenT BT P' K' gc' gz he [] ca fc F ∧ OU m m1 (n + 216) := by
  obtain ⟨h1, ⟨h2, h3, h4⟩, h5, h6, h7, h8, ⟨h9, h10, h11⟩, ⟨h12, h13⟩, h14, h15⟩ := h
  obtain ⟨z1, z2, z3, z4, z5, z6⟩ := hA
  have hP8 := hV.2.2.2.2.2.1.1
  have w1 := z1
  have w2 := z2
  have w4 := z4
  have w5 := z5
  unfold PN at w1 w2
  unfold TT at w4 w5
  obtain ⟨m1, em⟩ : ∃ m1, sI (sI (sI (sR (sR (sR m n 0 (some ps)) n 1 (some pl)) n 2 (some tl)) tl 1 0) (n + 210) 2 0) n 9 0 = m1 := ⟨_, rfl⟩
  have o : Off m m1 [n, tl, n + 210] := by
    rw [← em]
    exact Off.tr1 (Off.tr1 (Off.tr1 (Off.tr1 (Off.tr1 (Off.sR.mono (by simp)) (Off.sR.mono (by simp))) (Off.sR.mono (by simp))) (Off.sI.mono (by simp))) (Off.sI.mono (by simp))) (Off.sI.mono (by simp))
  have R : ∀ a j, ¬ (a = n ∧ j < 3) → gR m1 a j = gR m a j := fun a j hz => by
    rw [← em]
    show gR (sR (sR (sR m n 0 (some ps)) n 1 (some pl)) n 2 (some tl)) a j = gR m a j
    rw [gR_sR, if_neg (by omega), gR_sR, if_neg (by omega), gR_sR, if_neg (by omega)]
  have I : ∀ a, a ≠ n → a ≠ tl → a ≠ n + 210 → ∀ j, gI m1 a j = gI m a j := fun a x y z j => o.I (by simp; omega) j
  have hLY : LY G m1 n := h1.kept (fun a j hz => R a j (by unfold PN TT at hz; omega))
  have r0 : gR m1 n 0 = some ps := by rw [← em]; show gR (sR (sR (sR m n 0 (some ps)) n 1 (some pl)) n 2 (some tl)) n 0 = _; rw [gR_sR, if_neg (by omega), gR_sR, if_neg (by omega), gR_sR, if_pos ⟨rfl, rfl⟩]
  have r1 : gR m1 n 1 = some pl := by rw [← em]; show gR (sR (sR (sR m n 0 (some ps)) n 1 (some pl)) n 2 (some tl)) n 1 = _; rw [gR_sR, if_neg (by omega), gR_sR, if_pos ⟨rfl, rfl⟩]
  have r2 : gR m1 n 2 = some tl := by rw [← em]; show gR (sR (sR (sR m n 0 (some ps)) n 1 (some pl)) n 2 (some tl)) n 2 = _; rw [gR_sR, if_pos ⟨rfl, rfl⟩]
  have hCV := hV.off o (by simp; omega)
  have htl := hLY.2.2.2.2 tl z5
  refine ⟨m1, ?_, ⟨hLY, ⟨r0, r1, r2⟩, hCV, ⟨htl.1, htl.2, ?_, by omega, fun i hi => by omega, fun _ _ => rfl⟩, hSg.eq (fun e he => ⟨(o _ (by simp; omega)).1, (o _ (by simp; omega)).1, (o _ (by simp; omega)).1⟩), ⟨?_, by show 0 ≤ 200; omega, fun k v hk => by simp [gz] at hk⟩, ⟨?_, ?_, fun i c hc => by simp at hc⟩, ⟨?_, ?_⟩, by rw [I _ (by omega) (by omega) (by omega)]; exact h14, by rw [I _ (by omega) (by omega) (by omega)]; exact h15⟩, fun a ha => o a (by simp; omega)⟩
  · unfold B_X10_load_51
    have et : M_X10_takeSpare G n m = some ((), m1) := by
      unfold M_X10_takeSpare
      rw [nb_e h2, h3, h2]
      have e5 : gR (sR (sR m n 0 (some ps)) n 1 (some pl)) pl 5 = some tl := by rw [gR_sR, if_neg (by omega), gR_sR, if_neg (by omega)]; exact h5.2.1
      rw [e5, nb_e (show gR (sR (sR (sR m n 0 (some ps)) n 1 (some pl)) n 2 (some tl)) n 2 = some tl by rw [gR_sR, if_pos ⟨rfl, rfl⟩])]
      rw [nb_e (show gR (sI (sR (sR (sR m n 0 (some ps)) n 1 (some pl)) n 2 (some tl)) tl 1 0) n 6 = some (n + 210) by show gR (sR (sR (sR m n 0 (some ps)) n 1 (some pl)) n 2 (some tl)) n 6 = _; rw [gR_sR, if_neg (by omega), gR_sR, if_neg (by omega), gR_sR, if_neg (by omega)]; exact h1.1.2.2.2.1), em]
    rw [nb_e h1.1.1, h14, hF, if_pos nI_0, bd_e et, nb_e r0, hCV.2.2.2.2.1]
  · rw [← em, gI_sI_ne (Or.inl (by omega)), gI_sI_ne (Or.inl (by omega)), gI_sI_eq]; rfl
  · rw [← em, gI_sI_ne (Or.inl (by omega)), gI_sI_eq]; rfl
  · rw [← em, gI_sI_ne (Or.inr (by omega)), gI_sI_ne (Or.inl (by omega)), gI_sI_ne (Or.inl (by omega))]; exact h9
  · rw [← em, gI_sI_eq]; rfl
  · rw [← em, gI_sI_ne (Or.inr (by omega)), gI_sI_ne (Or.inl (by omega)), gI_sI_ne (Or.inl (by omega))]; exact h12
  · rw [← em, gI_sI_ne (Or.inr (by omega)), gI_sI_ne (Or.inl (by omega)), gI_sI_ne (Or.inl (by omega))]; exact h13
