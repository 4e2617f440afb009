/-! ===== L2: class and reference between two calls ===== -/
def LY (G : GG) (m : MM) (n : Nat) : Prop := (gR m n 3 = some (n + 203) ∧ gR m n 4 = some (n + 204) ∧ gR m n 5 = some (n + 209) ∧ gR m n 6 = some (n + 210) ∧ gR m n 7 = some (n + 213)) ∧ (gR m (n + 210) 0 = some (n + 211) ∧ gR m (n + 210) 1 = some (n + 212) ∧ G.2.2 (n + 211) = 200 ∧ G.2.2 (n + 212) = 189 ∧ G.2.2 (n + 213) = 12) ∧ ST G m n ∧ (∀ pg, PN n pg → LPg G m pg ∧ gR m pg 2 = some (pg + 3) ∧ G.2.2 (pg + 3) = 2000) ∧ ∀ t, TT n t → gR m t 0 = some (t + 1) ∧ G.2.2 (t + 1) = 2000
theorem LY.kept {G : GG} {m m1 : MM} {n : Nat} (h : LY G m n) (o : ∀ a j, (a = n ∧ 3 ≤ j) ∨ (a = n + 210 ∧ j ≤ 1) ∨ (a = n + 204 ∧ j ≤ 1) ∨ (a = n + 205 ∧ j = 0) ∨ (a = n + 207 ∧ j = 0) ∨ (n + 1 ≤ a ∧ a < n + 201 ∧ ¬ (PN n a ∧ 3 ≤ j)) ∨ (TT n a ∧ j = 0) → gR m1 a j = gR m a j) : LY G m1 n := by
  obtain ⟨⟨a1, a2, a3, a4, a5⟩, ⟨b1, b2, b3⟩, ⟨c1, c2, c3, c4, c5, c6⟩, d1, e1⟩ := h
  refine ⟨⟨by rw [o _ _ (by omega)]; exact a1, by rw [o _ _ (by omega)]; exact a2, by rw [o _ _ (by omega)]; exact a3, by rw [o _ _ (by omega)]; exact a4, by rw [o _ _ (by omega)]; exact a5⟩, ⟨by rw [o _ _ (by omega)]; exact b1, by rw [o _ _ (by omega)]; exact b2, b3⟩, ⟨by rw [o _ _ (by omega)]; exact c1, by rw [o _ _ (by omega)]; exact c2, by rw [o _ _ (by omega)]; exact c3, c4, by rw [o _ _ (by omega)]; exact c5, c6⟩, fun pg hp => ?_, fun t ht => ?_⟩
  · obtain ⟨⟨p1, p2, p3, p4, p5⟩, p6, p7⟩ := d1 pg hp
    have hN := hp
    unfold PN at hN
    refine ⟨⟨by rw [o _ _ (by unfold PN; omega)]; exact p1, by rw [o _ _ (by unfold PN; omega)]; exact p2, p3, p4, fun e he => ?_⟩, by rw [o _ _ (by unfold PN; omega)]; exact p6, p7⟩
    obtain ⟨q1, q2⟩ := p5 e he
    exact ⟨by rw [o _ _ (by unfold PN; omega)]; exact q1, fun i hi => ⟨by rw [o _ _ (by unfold PN; omega)]; exact (q2 i hi).1, (q2 i hi).2⟩⟩
  · obtain ⟨t1, t2⟩ := e1 t ht
    exact ⟨by rw [o _ _ (Or.inr (Or.inr (Or.inr (Or.inr (Or.inr (Or.inr ⟨ht, rfl⟩))))))]; exact t1, t2⟩
theorem LY.eq {G : GG} {m m1 : MM} {n : Nat} (h : LY G m n) (o : m1.2.2 = m.2.2) : LY G m1 n := h.kept (fun a j _ => by show m1.2.2 a j = m.2.2 a j; rw [o])
/-- where the class's parts are -/
def ZA (n pl ps tp tl : Nat) : Prop := PN n pl ∧ PN n ps ∧ pl ≠ ps ∧ TT n tp ∧ TT n tl ∧ tp ≠ tl
/-- the class between two calls -/
def ZC (G : GG) (m : MM) (n pl ps tp tl lenT : Nat) (BT : Nat → Int32) (len : Nat) (B : Nat → Int32) (P : List Enm) (K : List Ko) (gc : Nat → Nat → Nat → Int32) (g : Sg) (he : Nat) (hs : List Nat) (ca : Nat) (fc : Int32) (F : Nat × Nat) : Prop := LY G m n ∧ (gR m n 0 = some pl ∧ gR m n 1 = some ps ∧ gR m n 2 = some tp) ∧ CV G m pl tl len B P (K.map (bcd B P)) gc ∧ TP G m tp lenT BT ∧ CSg m pl P g ∧ CTr m n g.2.2.2.2 ∧ (gI m n 8 = nI he ∧ gI m n 9 = nI hs.length ∧ ∀ i c, hs[i]? = some c → gI m (n + 213) i = nI c) ∧ (gI m n 10 = nI ca ∧ gI m n 11 = fc) ∧ gI m (n + 203) 0 = nI F.1 ∧ gI m (n + 203) 1 = nI F.2
/-- the reference between two calls -/
def ZR (G : GG) (m : MM) (d tt lenT : Nat) (BT : Nat → Int32) (len : Nat) (B : Nat → Int32) (P : List Enm) (K : List Ko) (g : Sg) (he : Nat) (hs : List Nat) (ca : Nat) (fc : Int32) (F : Nat × Nat) : Prop := LM G m d ∧ (gI m d 3 = nI tt ∧ tt ≤ 1) ∧ (gI m d 1 = nI lenT ∧ ∀ i, i < lenT → gI m (d + 1) i = BT i) ∧ gI m (d + 3) tt = nI P.length ∧ (P ≠ [] → RQ G m d tt B K P ∧ ∀ i, i < len → gI m (d + 2) (2000 * tt + i) = B i) ∧ RSg m d P g ∧ RTr m d g.2.2.2.2 ∧ (gI m d 62 = nI ca ∧ gI m d 63 = fc) ∧ (gI m d 71 = nI hs.length ∧ (hs ≠ [] → gI m d 72 = nI he) ∧ ∀ i c, hs[i]? = some c → gI m (d + 52) i = nI c) ∧ (gI m d 54 = nI F.1 ∧ gI m d 55 = if F.1 = 0 then -1000009 else nI F.2)
/-- what both share -/
def ZF (len : Nat) (B : Nat → Int32) (P : List Enm) (K : List Ko) (gc : Nat → Nat → Nat → Int32) (g : Sg) (he : Nat) (hs : List Nat) (ca : Nat) (F : Nat × Nat) : Prop := OKP B P K ∧ (aK K).length ≤ 2000 ∧ GP B P (gvi 0 K) gc ∧ ISg P g ∧ (∀ e, e < P.length → g.1 e ≠ 3) ∧ (hs.length ≤ 12 ∧ he < 8 ∧ (hs ≠ [] → ∃ E, P[he]? = some E ∧ g.1 he = 1 ∧ ∀ c ∈ hs, c < E.2.1.length)) ∧ ca ≤ 6 ∧ F.1 < 100 ∧ True ∧ Tx B len ∧ (gvi 0 K).length ≤ 500
def INV (G : GG) (m : MM) (n : Nat) : Prop := ∃ (pl ps tp tl tt lenT : Nat) (BT : Nat → Int32) (len : Nat) (B : Nat → Int32) (P : List Enm) (K : List Ko) (gc : Nat → Nat → Nat → Int32) (g : Sg) (he : Nat) (hs : List Nat) (ca : Nat) (fc : Int32) (F : Nat × Nat), ZA n pl ps tp tl ∧ ZC G m n pl ps tp tl lenT BT len B P K gc g he hs ca fc F ∧ ZR G m (n + 216) tt lenT BT len B P K g he hs ca fc F ∧ ZF len B P K gc g he hs ca F
/-- only addresses from d on change, ints alone -/
def OD (m m1 : MM) (d : Nat) : Prop := m1.2 = m.2 ∧ ∀ a, a < d → m1.1 a = m.1 a
/-- only addresses below d change -/
def OU (m m1 : MM) (d : Nat) : Prop := ∀ a, d ≤ a → m1.1 a = m.1 a ∧ m1.2.1 a = m.2.1 a ∧ m1.2.2 a = m.2.2 a
theorem OD.rf {m : MM} {d : Nat} : OD m m d := ⟨rfl, fun _ _ => rfl⟩
theorem OD.tr {m m1 m2 : MM} {d : Nat} (h : OD m m1 d) (h2 : OD m1 m2 d) : OD m m2 d := ⟨h2.1.trans h.1, fun a ha => (h2.2 a ha).trans (h.2 a ha)⟩
theorem OU.rf {m : MM} {d : Nat} : OU m m d := fun _ _ => ⟨rfl, rfl, rfl⟩
theorem OU.tr {m m1 m2 : MM} {d : Nat} (h : OU m m1 d) (h2 : OU m1 m2 d) : OU m m2 d := fun a ha => ⟨(h2 a ha).1.trans (h a ha).1, (h2 a ha).2.1.trans (h a ha).2.1, (h2 a ha).2.2.trans (h a ha).2.2⟩
theorem OM.od {m m1 : MM} {d : Nat} {S A : List Nat} (h : OM m m1 d S A) : OD m m1 d := ⟨Prod.ext h.1 h.2.1, fun a ha => h.2.2.1 a (by omega) (fun o _ => by omega)⟩
theorem OD.s {m : MM} {d a k : Nat} {v : Int32} (h : d ≤ a) : OD m (sI m a k v) d := ⟨rfl, fun b hb => sI_ne (by omega)⟩
theorem OU.s {m : MM} {d a k : Nat} {v : Int32} (h : a < d) : OU m (sI m a k v) d := fun b hb => ⟨sI_ne (by omega), rfl, rfl⟩
theorem OU.r {m : MM} {d a k : Nat} {v : Option Nat} (h : a < d) : OU m (sR m a k v) d := fun b hb => (sR_off (by omega))
theorem OX.ou {m m1 : MM} {n pl : Nat} (hN : PN n pl) (h : OX m m1 n pl) : OU m m1 (n + 216) := fun a ha => by
  unfold PN at hN
  exact ⟨h.2.1 a (by omega) (by omega) (by omega) (by intro e he; omega), by rw [h.1], by rw [h.1]⟩
theorem OD.I {m m1 : MM} {d a : Nat} (h : OD m m1 d) (ha : a < d) (j : Nat) : gI m1 a j = gI m a j := congrFun (h.2 a ha) j
theorem OD.R {m m1 : MM} {d : Nat} (h : OD m m1 d) (a j : Nat) : gR m1 a j = gR m a j := by show m1.2.2 a j = m.2.2 a j; rw [h.1]
theorem OD.L {m m1 : MM} {d : Nat} (h : OD m m1 d) (a j : Nat) : gL m1 a j = gL m a j := by show m1.2.1 a j = m.2.1 a j; rw [h.1]
theorem TP.od {G : GG} {m m1 : MM} {n t len : Nat} {B : Nat → Int32} (hT : TT n t) (h : TP G m t len B) (o : OD m m1 (n + 216)) : TP G m1 t len B := by
  obtain ⟨t1, t2, t3, t4, t5, t6⟩ := h
  unfold TT at hT
  exact ⟨by rw [o.R]; exact t1, t2, by rw [o.I (by omega)]; exact t3, t4, fun i hi => by rw [o.I (by omega)]; exact t5 i hi, t6⟩
theorem CV.od {G : GG} {m m1 : MM} {n pl tl len : Nat} {B : Nat → Int32} {P : List Enm} {C : List Int64} {gc : Nat → Nat → Nat → Int32} (hN : PN n pl) (hT : TT n tl) (h : CV G m pl tl len B P C gc) (o : OD m m1 (n + 216)) : CV G m1 pl tl len B P C gc := by
  obtain ⟨a1, a2, a3, a4, a5, a6, a7⟩ := h
  obtain ⟨c1, c2, c3, c4, c5⟩ := a4
  unfold PN at hN
  refine ⟨a1.eq (by rw [o.1]), by rw [o.R]; exact a2, a3.od hT o, ⟨by rw [o.R]; exact c1, c2, by rw [o.I (by omega)]; exact c3, c4, fun j v hj => by rw [o.L]; exact c5 j v hj⟩, by rw [o.I (by omega)]; exact a5, a6, fun e E hE => ?_⟩
  obtain ⟨e1, e2, e3⟩ := a7 e E hE
  have he : e < 8 := by have := get_lt hE; have := a6.1; omega
  exact ⟨by rw [o.I (by omega)]; exact e1, e2.kept (fun j _ _ => o.I (by omega) j) (fun i hi => o.2 _ (by omega)), fun c i hc h8 => by rw [o.I (by omega)]; exact e3 c i hc h8⟩
theorem ZC.od {G : GG} {m m1 : MM} {n pl ps tp tl lenT : Nat} {BT : Nat → Int32} {len : Nat} {B : Nat → Int32} {P : List Enm} {K : List Ko} {gc : Nat → Nat → Nat → Int32} {g : Sg} {he : Nat} {hs : List Nat} {ca : Nat} {fc : Int32} {F : Nat × Nat} (hA : ZA n pl ps tp tl) (h : ZC G m n pl ps tp tl lenT BT len B P K gc g he hs ca fc F) (o : OD m m1 (n + 216)) : ZC G m1 n pl ps tp tl lenT BT len B P K gc g he hs ca fc F := by
  obtain ⟨h1, ⟨h2, h3, h4⟩, h5, h6, h7, h8, ⟨h9, h10, h11⟩, ⟨h12, h13⟩, h14, h15⟩ := h
  obtain ⟨z1, z2, z3, z4, z5, z6⟩ := hA
  have hP8 := h5.2.2.2.2.2.1.1
  have hN := z1
  unfold PN at hN
  exact ⟨h1.eq (by rw [o.1]), ⟨by rw [o.R]; exact h2, by rw [o.R]; exact h3, by rw [o.R]; exact h4⟩, h5.od z1 z5 o, h6.od z4 o, h7.eq (fun e he => ⟨o.2 _ (by omega), o.2 _ (by omega), o.2 _ (by omega)⟩), ⟨by rw [o.I (by omega)]; exact h8.1, h8.2.1, fun k v hk => by rw [o.I (by omega)]; exact h8.2.2 k v hk⟩, ⟨by rw [o.I (by omega)]; exact h9, by rw [o.I (by omega)]; exact h10, fun i c hc => by rw [o.I (by omega)]; exact h11 i c hc⟩, ⟨by rw [o.I (by omega)]; exact h12, by rw [o.I (by omega)]; exact h13⟩, by rw [o.I (by omega)]; exact h14, by rw [o.I (by omega)]; exact h15⟩
theorem OU.I {m m1 : MM} {d a : Nat} (h : OU m m1 d) (ha : d ≤ a) (j : Nat) : gI m1 a j = gI m a j := congrFun (h a ha).1 j
theorem OU.R {m m1 : MM} {d a : Nat} (h : OU m m1 d) (ha : d ≤ a) (j : Nat) : gR m1 a j = gR m a j := congrFun (h a ha).2.2 j
theorem LM.ou {G : GG} {m m1 : MM} {d : Nat} (h : LM G m d) (o : OU m m1 d) : LM G m1 d := fun s hs => ⟨by rw [o.R (Nat.le_refl _)]; exact (h s hs).1, (h s hs).2⟩
theorem RQ.ou {G : GG} {m m1 : MM} {d tt : Nat} {B : Nat → Int32} {K : List Ko} {P : List Enm} (h : RQ G m d tt B K P) (o : OU m m1 d) : RQ G m1 d tt B K P := by
  obtain ⟨h1, h2, h3, h4, h5, h6, h7⟩ := h
  refine ⟨h1.ou o, by rw [o.I (Nat.le_refl _)]; exact h2, h3, h4.eq (fun i a b => (o _ (by omega)).1), h5.eq (fun i a b => (o _ (by omega)).1), h6.kept (fun i a b c => (o _ (by omega)).1), fun j q hq => ?_⟩
  obtain ⟨a1, a2⟩ := h7 j q hq
  refine ⟨fun z => ?_, fun z e c hc => ?_⟩
  · obtain ⟨E, e1, e2⟩ := a1 z
    exact ⟨E, e1, (o.I (by omega) _).trans e2⟩
  · obtain ⟨e1, e2⟩ := a2 z e c hc
    exact ⟨(o.I (by omega) _).trans e1, (o.I (by omega) _).trans e2⟩
theorem ZR.ou {G : GG} {m m1 : MM} {d tt lenT : Nat} {BT : Nat → Int32} {len : Nat} {B : Nat → Int32} {P : List Enm} {K : List Ko} {g : Sg} {he : Nat} {hs : List Nat} {ca : Nat} {fc : Int32} {F : Nat × Nat} (h : ZR G m d tt lenT BT len B P K g he hs ca fc F) (o : OU m m1 d) : ZR G m1 d tt lenT BT len B P K g he hs ca fc F := by
  obtain ⟨h1, ⟨h2, h3⟩, ⟨h4, h5⟩, h6, h7, h8, h9, ⟨h10, h11⟩, ⟨h12, h13, h14⟩, h15, h16⟩ := h
  have r := Nat.le_refl d
  exact ⟨h1.ou o, ⟨by rw [o.I r]; exact h2, h3⟩, ⟨by rw [o.I r]; exact h4, fun i hi => by rw [o.I (by omega)]; exact h5 i hi⟩, by rw [o.I (by omega)]; exact h6, fun z => ⟨(h7 z).1.ou o, fun i hi => by rw [o.I (by omega)]; exact (h7 z).2 i hi⟩, h8.kept (fun i _ _ => (o _ (by omega)).1), h9.kept (o.I r 61) (o _ (by omega)).1, ⟨by rw [o.I r]; exact h10, by rw [o.I r]; exact h11⟩, ⟨by rw [o.I r]; exact h12, fun z => by rw [o.I r]; exact h13 z, fun i c hc => by rw [o.I (by omega)]; exact h14 i c hc⟩, by rw [o.I r]; exact h15, by rw [o.I r]; exact h16⟩
/-- a call of both, and what holds behind it -/
def BOTH (G : GG) (n : Nat) (m : MM) (X Y : MM → Option (Int32 × MM)) : Prop := ∃ v m1 m2, X m = some (v, m1) ∧ Y m1 = some (v, m2) ∧ INV G m2 n
/-- places in a row -/
theorem mr_in {G : GG} {m : MM} {x : Int32} {N : Nat} (hN : N < 2 ^ 30) : (∃ j, j < N ∧ x = nI j ∧ M_X11_in G x 0 (nI N - 1) m = some (true, m)) ∨ ((x < 0 ∨ nI N ≤ x) ∧ M_X11_in G x 0 (nI N - 1) m = some (false, m)) := by
  unfold M_X11_in
  rcases pk_ix x (n := N) (by omega) with w | w | ⟨j, hj, w⟩
  · exact Or.inr ⟨Or.inl w, by rw [if_pos w]⟩
  · refine Or.inr ⟨Or.inr w, ?_⟩
    by_cases z : x < 0
    · rw [if_pos z]
    · obtain ⟨k, hk, rfl⟩ := nI_of z
      have := (nI_leI (by omega) hk).mp w
      rw [if_neg z, if_pos ?_]
      cases N with
      | zero =>
        rw [nI_0]
        have := nI_pos' hk
        simp only [Int32.lt_iff_toInt_lt, Int32.le_iff_toInt_le] at this ⊢
        have e : ((0 : Int32) - 1).toInt = -1 := by decide
        rw [e]
        have e2 : (0 : Int32).toInt = 0 := by decide
        omega
      | succ N => rw [nI_pred]; exact (nI_ltI (by omega) hk).mpr (by omega)
  · refine Or.inl ⟨j, hj, w, ?_⟩
    rw [w, if_neg (nI_pos (by omega)), if_neg ?_]
    cases N with
    | zero => omega
    | succ N => rw [nI_pred]; exact fun z => absurd ((nI_ltI (by omega) (by omega)).mp z) (by omega)
theorem zc_enum {G : GG} {m : MM} {pl tl len : Nat} {B : Nat → Int32} {P : List Enm} {C : List Int64} {gc : Nat → Nat → Nat → Int32} {x : Int32} (h : CV G m pl tl len B P C gc) (hx : x < 0 ∨ nI P.length ≤ x) : M_X6_enumAt G pl x m = some (none, m) := by
  unfold M_X6_enumAt
  by_cases z : x < 0
  · rw [if_pos z]
  · rw [if_neg z, h.2.2.2.2.1, if_pos (hx.resolve_left z)]
theorem zc_hasC {G : GG} {m : MM} {en N : Nat} {x : Int32} (h : gI m en 12 = nI N) (hx : x < 0 ∨ nI N ≤ x) : M_X1_hasConstant G en x m = some (false, m) := by
  unfold M_X1_hasConstant
  by_cases z : x < 0
  · rw [if_pos z]
  · rw [if_neg z, h, if_pos (hx.resolve_left z)]
theorem zc_hasM {G : GG} {m : MM} {en N : Nat} {x : Int32} (h : gI m en 13 = nI N) (hx : x < 0 ∨ nI N ≤ x) : M_X1_hasMember G en x m = some (false, m) := by
  unfold M_X1_hasMember
  by_cases z : x < 0
  · rw [if_pos z]
  · rw [if_neg z, h, if_pos (hx.resolve_left z)]
theorem zc_hasF {G : GG} {m : MM} {en N : Nat} {x : Int32} (h : gI m en 14 = nI N) (hx : x < 0 ∨ nI N ≤ x) : M_X1_hasField G en x m = some (false, m) := by
  unfold M_X1_hasField
  by_cases z : x < 0
  · rw [if_pos z]
  · rw [if_neg z, h, if_pos (hx.resolve_left z)]
/-- is there such an enumeration, by both -/
theorem zz_enum {G : GG} {m : MM} {d tt lenT : Nat} {BT : Nat → Int32} {len : Nat} {B : Nat → Int32} {P : List Enm} {K : List Ko} {g : Sg} {he : Nat} {hs : List Nat} {ca : Nat} {fc : Int32} {F : Nat × Nat} (hP : PB P) (h : ZR G m d tt lenT BT len B P K g he hs ca fc F) (x : Int32) : (∃ e E, P[e]? = some E ∧ x = nI e ∧ M_X11_isEnum G d x m = some (true, m)) ∨ ((x < 0 ∨ nI P.length ≤ x) ∧ M_X11_isEnum G d x m = some (false, m)) := by
  obtain ⟨h1, ⟨h2, h3⟩, -, h6, -⟩ := h
  have hP8 := hP.1
  unfold M_X11_isEnum
  rw [nb_e (mr_6 h1), mz_6 h1, h2, ib_n (by omega) (by omega), nI_clamp (by omega), h6]
  rcases mr_in (G := G) (m := m) (x := x) (N := P.length) (by omega) with ⟨j, j1, j2, j3⟩ | ⟨j1, j2⟩
  · obtain ⟨E, hE⟩ := lt_get j1
    exact Or.inl ⟨j, E, hE, j2, by rw [bd_e j3]⟩
  · exact Or.inr ⟨j1, by rw [bd_e j2]⟩
theorem zz_const {G : GG} {m : MM} {d tt lenT : Nat} {BT : Nat → Int32} {len : Nat} {B : Nat → Int32} {P : List Enm} {K : List Ko} {g : Sg} {he : Nat} {hs : List Nat} {ca : Nat} {fc : Int32} {F : Nat × Nat} (hP : PB P) (h : ZR G m d tt lenT BT len B P K g he hs ca fc F) (x y : Int32) : (∃ e E c, P[e]? = some E ∧ x = nI e ∧ c < E.2.1.length ∧ y = nI c ∧ M_X11_isConst G d x y m = some (true, m)) ∨ (((x < 0 ∨ nI P.length ≤ x) ∨ ∃ e E, P[e]? = some E ∧ x = nI e ∧ (y < 0 ∨ nI E.2.1.length ≤ y)) ∧ M_X11_isConst G d x y m = some (false, m)) := by
  unfold M_X11_isConst
  rcases zz_enum hP h x with ⟨e, E, hE, hx, hi⟩ | ⟨hx, hi⟩
  · obtain ⟨b1, b2, b3, -⟩ := pb_en hP hE
    have hne : P ≠ [] := fun z => by rw [z] at hE; simp at hE
    obtain ⟨h1, ⟨h2, h3⟩, -, -, h7, -⟩ := h
    have n1 : gI m (d + 6) (8 * tt + e) = nI E.2.1.length := ((h7 hne).1.2.2.2.1.2 e E hE).2.2.1.1
    rw [bd_e hi, if_pos rfl, nb_e (mr_9 h1), mz_9 h1, h2, hx, show (8 : Int32) = nI 8 from rfl, pk_mul, nI_add, ib_n (by omega) (by omega), nI_clamp (by omega), n1]
    rcases mr_in (G := G) (m := m) (x := y) (N := E.2.1.length) (by omega) with ⟨j, j1, j2, j3⟩ | ⟨j1, j2⟩
    · exact Or.inl ⟨e, E, j, hE, rfl, j1, j2, by rw [bd_e j3, if_pos rfl]⟩
    · exact Or.inr ⟨Or.inr ⟨e, E, hE, rfl, j1⟩, by rw [bd_e j2, if_neg (by decide)]⟩
  · exact Or.inr ⟨Or.inl hx, by rw [bd_e hi, if_neg (by decide)]⟩
