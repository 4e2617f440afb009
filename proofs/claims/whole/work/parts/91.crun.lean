/-! ===== L2: the class's Runner ===== -/
def CSg (m : MM) (pl : Nat) (P : List Enm) (g : Sg) : Prop := ∀ e E, P[e]? = some E → gI m (pl + 4 + 12 * e) 17 = nI (g.1 e) ∧ gI m (pl + 4 + 12 * e) 18 = nI (min (g.2.1 e) E.2.1.length) ∧ (∀ c, c < E.2.1.length → gI m (pl + 4 + 12 * e + 10) c = g.2.2.1 e c) ∧ ∀ i q, (fls E.2.2)[i]? = some q → gI m (pl + 4 + 12 * e + 9) i = if q.1 = 8 then nI q.2.2.1 else g.2.2.2.1 e i
def CTr (m : MM) (n : Nat) (tr : List Int32) : Prop := gI m (n + 210) 2 = nI tr.length ∧ tr.length ≤ 200 ∧ ∀ k v, tr[k]? = some v → gI m (n + 211) k = v
def SK (m : MM) (a : Nat) : List Int32 → Prop
  | [] => True
  | x :: l => gI m a l.length = x ∧ SK m a l
theorem SK.kept {m m1 : MM} {a : Nat} : ∀ {st : List Int32}, SK m a st → (∀ j, j < st.length → gI m1 a j = gI m a j) → SK m1 a st := by
  intro st
  induction st with
  | nil => intro _ _; trivial
  | cons x l ih =>
    intro h o
    exact ⟨by rw [o l.length (by simp)]; exact h.1, ih h.2 (fun j hj => o j (by rw [List.length_cons]; omega))⟩
theorem SK.app {m : MM} {a : Nat} : ∀ {s t : List Int32}, SK m a (s ++ t) → SK m a t := by
  intro s
  induction s with
  | nil => intro t h; exact h
  | cons x l ih => intro t h; exact ih h.2
def RNR (G : GG) (m : MM) (n pl : Nat) : Prop := gR m (n + 210) 0 = some (n + 211) ∧ gR m (n + 210) 1 = some (n + 212) ∧ gR m (n + 210) 5 = some pl ∧ G.2.2 (n + 211) = 200 ∧ G.2.2 (n + 212) = 189
def TT (n t : Nat) : Prop := t = n + 201 ∨ t = n + 214
/-- where the class stands in a run -/
def CX (G : GG) (m : MM) (n pl tl len : Nat) (B : Nat → Int32) (P : List Enm) (K : List Ko) (gc : Nat → Nat → Nat → Int32) (g : Sg) (k : Nat) (st : List Int32) : Prop := CV G m pl tl len B P (K.map (bcd B P)) gc ∧ CSg m pl P g ∧ CTr m n g.2.2.2.2 ∧ RNR G m n pl ∧ gI m (n + 210) 4 = nI k ∧ gI m (n + 210) 3 = nI st.length ∧ SK m (n + 212) st
/-- what a run of the class may change -/
def OX (m m1 : MM) (n pl : Nat) : Prop := m1.2 = m.2 ∧ (∀ a, a ≠ n + 210 → a ≠ n + 211 → a ≠ n + 212 → (∀ e, e < 8 → a ≠ pl + 4 + 12 * e ∧ a ≠ pl + 4 + 12 * e + 9 ∧ a ≠ pl + 4 + 12 * e + 10) → m1.1 a = m.1 a) ∧ ∀ e j, e < 8 → j ≠ 17 → j ≠ 18 → gI m1 (pl + 4 + 12 * e) j = gI m (pl + 4 + 12 * e) j
theorem OX.rf {m : MM} {n pl : Nat} : OX m m n pl := ⟨rfl, fun _ _ _ _ _ => rfl, fun _ _ _ _ _ => rfl⟩
theorem OX.tr {m m1 m2 : MM} {n pl : Nat} (h : OX m m1 n pl) (h2 : OX m1 m2 n pl) : OX m m2 n pl := ⟨h2.1.trans h.1, fun a x y z w => (h2.2.1 a x y z w).trans (h.2.1 a x y z w), fun e j x y z => (h2.2.2 e j x y z).trans (h.2.2 e j x y z)⟩
theorem sI_ne {m : MM} {a k b : Nat} {v : Int32} (h : b ≠ a) : (sI m a k v).1 b = m.1 b := (sI_off h).1
theorem OX.r {m : MM} {n pl a k : Nat} {v : Int32} (hN : PN n pl) (ha : a = n + 210 ∨ a = n + 211 ∨ a = n + 212) : OX m (sI m a k v) n pl := by
  unfold PN at hN
  exact ⟨rfl, fun b x y z _ => sI_ne (by omega), fun e j he _ _ => gI_sI_ne (Or.inl (by omega))⟩
theorem OX.e {m : MM} {n pl e k : Nat} {v : Int32} (he : e < 8) (hk : k = 17 ∨ k = 18) : OX m (sI m (pl + 4 + 12 * e) k v) n pl := ⟨rfl, fun b _ _ _ w => sI_ne (w e he).1, fun e' j he' _ _ => gI_sI_ne (by omega)⟩
theorem OX.v {m : MM} {n pl e i k : Nat} {v : Int32} (he : e < 8) (hi : i = 9 ∨ i = 10) : OX m (sI m (pl + 4 + 12 * e + i) k v) n pl := ⟨rfl, fun b _ _ _ w => sI_ne (by have := w e he; rcases hi with q | q <;> rw [q] <;> omega), fun e' j he' _ _ => gI_sI_ne (Or.inl (by omega))⟩
theorem CV.ox {G : GG} {m m1 : MM} {n pl tl len : Nat} {B : Nat → Int32} {P : List Enm} {C : List Int64} {gc : Nat → Nat → Nat → Int32} (hN : PN n pl) (hT : TT n tl) (h : CV G m pl tl len B P C gc) (o : OX m m1 n pl) : CV G m1 pl tl len B P C gc := by
  obtain ⟨o1, o2, o3⟩ := o
  have r : m1.2.2 = m.2.2 := by rw [o1]
  have l : m1.2.1 = m.2.1 := by rw [o1]
  have hr : ∀ a j, gR m1 a j = gR m a j := fun a j => by show m1.2.2 a j = m.2.2 a j; rw [r]
  have hl : ∀ a j, gL m1 a j = gL m a j := fun a j => by show m1.2.1 a j = m.2.1 a j; rw [l]
  unfold PN at hN
  unfold TT at hT
  have hi : ∀ a, a ≠ n + 210 → a ≠ n + 211 → a ≠ n + 212 → (∀ e, e < 8 → a ≠ pl + 4 + 12 * e ∧ a ≠ pl + 4 + 12 * e + 9 ∧ a ≠ pl + 4 + 12 * e + 10) → ∀ j, gI m1 a j = gI m a j := fun a x y z w j => congrFun (o2 a x y z w) j
  obtain ⟨a1, a2, a3, a4, a5, a6, a7⟩ := h
  obtain ⟨t1, t2, t3, t4, t5, t6⟩ := a3
  obtain ⟨c1, c2, c3, c4, c5⟩ := a4
  refine ⟨a1.eq r, by rw [hr]; exact a2, ⟨by rw [hr]; exact t1, t2, by rw [hi tl (by omega) (by omega) (by omega) (by intro e he; omega)]; exact t3, t4, fun i h => by rw [hi (tl + 1) (by omega) (by omega) (by omega) (by intro e he; omega)]; exact t5 i h, t6⟩, ⟨by rw [hr]; exact c1, c2, by rw [hi pl (by omega) (by omega) (by omega) (by intro e he; omega)]; exact c3, c4, fun j v hj => by rw [hl]; exact c5 j v hj⟩, by rw [hi pl (by omega) (by omega) (by omega) (by intro e he; omega)]; exact a5, a6, fun e E hE => ?_⟩
  obtain ⟨e1, e2, e3⟩ := a7 e E hE
  have he : e < 8 := by have := get_lt hE; have := a6.1; omega
  refine ⟨by rw [hi (pl + 2) (by omega) (by omega) (by omega) (by intro e he; omega)]; exact e1, e2.kept (fun j _ _ => o3 e j he (by omega) (by omega)) (fun i hi2 => o2 _ (by omega) (by omega) (by omega) (by intro e' he'; omega)), fun c i hc h8 => ?_⟩
  rw [hi (pl + 4 + 12 * e + 4) (by omega) (by omega) (by omega) (by intro e' he'; omega)]
  exact e3 c i hc h8
theorem CSg.eq {m m1 : MM} {pl : Nat} {P : List Enm} {g : Sg} (h : CSg m pl P g) (o : ∀ e, e < P.length → m1.1 (pl + 4 + 12 * e) = m.1 (pl + 4 + 12 * e) ∧ m1.1 (pl + 4 + 12 * e + 9) = m.1 (pl + 4 + 12 * e + 9) ∧ m1.1 (pl + 4 + 12 * e + 10) = m.1 (pl + 4 + 12 * e + 10)) : CSg m1 pl P g := fun e E hE => by
  obtain ⟨a1, a2, a3, a4⟩ := h e E hE
  obtain ⟨o1, o2, o3⟩ := o e (get_lt hE)
  exact ⟨(congrFun o1 17).trans a1, (congrFun o1 18).trans a2, fun c hc => (congrFun o3 c).trans (a3 c hc), fun i q hq => (congrFun o2 i).trans (a4 i q hq)⟩
theorem CX.p8 {G : GG} {m : MM} {n pl tl len : Nat} {B : Nat → Int32} {P : List Enm} {K : List Ko} {gc : Nat → Nat → Nat → Int32} {g : Sg} {k : Nat} {st : List Int32} (h : CX G m n pl tl len B P K gc g k st) : P.length ≤ 8 := h.1.2.2.2.2.2.1.1
/-- a write into the Runner's fields of failure and height -/
theorem CX.fld {G : GG} {m : MM} {n pl tl len : Nat} {B : Nat → Int32} {P : List Enm} {K : List Ko} {gc : Nat → Nat → Nat → Int32} {g : Sg} {k : Nat} {st : List Int32} (hN : PN n pl) (hT : TT n tl) (h : CX G m n pl tl len B P K gc g k st) : (∀ k', CX G (sI m (n + 210) 4 (nI k')) n pl tl len B P K gc g k' st) ∧ ∀ s t, st = s ++ t → CX G (sI m (n + 210) 3 (nI t.length)) n pl tl len B P K gc g k t := by
  have h8 := h.p8
  obtain ⟨a1, a2, a3, a4, a5, a6, a7⟩ := h
  have hN2 := hN
  unfold PN at hN2
  have key : ∀ j (v : Int32), j = 3 ∨ j = 4 → CV G (sI m (n + 210) j v) pl tl len B P (K.map (bcd B P)) gc ∧ CSg (sI m (n + 210) j v) pl P g ∧ CTr (sI m (n + 210) j v) n g.2.2.2.2 ∧ RNR G (sI m (n + 210) j v) n pl := fun j v hj => ⟨a1.ox hN hT (OX.r hN (Or.inl rfl)), a2.eq (fun e he => ⟨sI_ne (by omega), sI_ne (by omega), sI_ne (by omega)⟩), ⟨by rw [gI_sI_ne (Or.inr (by omega))]; exact a3.1, a3.2.1, fun i v' hi => by rw [gI_sI_ne (Or.inl (by omega))]; exact a3.2.2 i v' hi⟩, a4⟩
  constructor
  · intro k'
    obtain ⟨b1, b2, b3, b4⟩ := key 4 (nI k') (Or.inr rfl)
    exact ⟨b1, b2, b3, b4, gI_sI_eq, by rw [gI_sI_ne (Or.inr (by decide))]; exact a6, a7.kept (fun j _ => gI_sI_ne (Or.inl (by omega)))⟩
  · intro s t est
    obtain ⟨b1, b2, b3, b4⟩ := key 3 (nI t.length) (Or.inl rfl)
    rw [est] at a7
    exact ⟨b1, b2, b3, b4, by rw [gI_sI_ne (Or.inr (by decide))]; exact a5, gI_sI_eq, a7.app.kept (fun j _ => gI_sI_ne (Or.inl (by omega)))⟩
theorem cr_push {G : GG} {m : MM} {n pl tl len : Nat} {B : Nat → Int32} {P : List Enm} {K : List Ko} {gc : Nat → Nat → Nat → Int32} {g : Sg} {k : Nat} {st : List Int32} {v : Int32} (hN : PN n pl) (hT : TT n tl) (h : CX G m n pl tl len B P K gc g k st) (hl : st.length < 189) : ∃ m1, M_X7_push G (n + 210) v m = some ((), m1) ∧ CX G m1 n pl tl len B P K gc g k (v :: st) ∧ OX m m1 n pl := by
  have h8 := h.p8
  obtain ⟨a1, a2, a3, a4, a5, a6, a7⟩ := h
  have hN2 := hN
  unfold PN at hN2
  unfold M_X7_push
  rw [a6, if_neg (nI_pos (by omega)), nb_e a4.2.1, a4.2.2.2.2, if_neg (fun z => absurd ((nI_leI (by omega) (by omega)).mp z) (by omega)), ib_n (by omega) (by omega), nI_clamp (by omega), gI_sI_ne (Or.inl (by omega)), a6, nI_1]
  have o : OX m (sI (sI m (n + 212) st.length v) (n + 210) 3 (nI (st.length + 1))) n pl := (OX.r hN (by omega)).tr (OX.r hN (by omega))
  refine ⟨_, rfl, ⟨a1.ox hN hT o, a2.eq (fun e he => ⟨?_, ?_, ?_⟩), ⟨?_, a3.2.1, fun i v' hi => ?_⟩, a4, ?_, by rw [List.length_cons]; exact gI_sI_eq, ?_, a7.kept (fun j hj => ?_)⟩, o⟩
  · rw [sI_ne (by omega), sI_ne (by omega)]
  · rw [sI_ne (by omega), sI_ne (by omega)]
  · rw [sI_ne (by omega), sI_ne (by omega)]
  · rw [gI_sI_ne (Or.inr (by omega)), gI_sI_ne (Or.inl (by omega))]
    exact a3.1
  · rw [gI_sI_ne (Or.inl (by omega)), gI_sI_ne (Or.inl (by omega))]
    exact a3.2.2 i v' hi
  · rw [gI_sI_ne (Or.inr (by omega)), gI_sI_ne (Or.inl (by omega))]
    exact a5
  · rw [gI_sI_ne (Or.inl (by omega)), gI_sI_eq]
  · rw [gI_sI_ne (Or.inl (by omega)), gI_sI_ne (Or.inr (by omega))]
theorem cr_pop {G : GG} {m : MM} {n pl tl len : Nat} {B : Nat → Int32} {P : List Enm} {K : List Ko} {gc : Nat → Nat → Nat → Int32} {g : Sg} {k : Nat} {st : List Int32} {x : Int32} (hN : PN n pl) (hT : TT n tl) (h : CX G m n pl tl len B P K gc g k (x :: st)) (hl : st.length < 189) : ∃ m1, M_X7_pop G (n + 210) m = some (x, m1) ∧ CX G m1 n pl tl len B P K gc g k st ∧ OX m m1 n pl := by
  have c := (h.fld hN hT).2 [x] st rfl
  obtain ⟨a1, a2, a3, a4, a5, a6, a7⟩ := h
  rw [List.length_cons] at a6
  unfold M_X7_pop
  rw [a6, if_neg (nI_nle (by omega) (by omega)), nb_e a4.2.1, a4.2.2.2.2, if_pos ((nI_leI (by omega) (by omega)).mpr (by omega)), nI_pred, nb_e (show gR (sI m (n + 210) 3 (nI st.length)) (n + 210) 1 = some (n + 212) from a4.2.1), gI_sI_eq, a4.2.2.2.2, ib_n (by omega) (by omega), nI_clamp (by omega), gI_sI_ne (Or.inl (by omega)), a7.1]
  exact ⟨_, rfl, c, OX.r hN (Or.inl rfl)⟩
theorem tad_get {l : List Int32} {v : Int32} (h : l.length ≤ 200) : (tad l v).length ≤ 200 ∧ (200 ≤ l.length → tad l v = l) ∧ (l.length < 200 → tad l v = l ++ [v]) := by
  unfold tad
  by_cases w : l.length < 200
  · rw [if_pos w, List.length_append, List.length_singleton]
    exact ⟨by omega, fun z => by omega, fun _ => rfl⟩
  · rw [if_neg w]
    exact ⟨h, fun _ => rfl, fun z => by omega⟩
theorem cr_trace {G : GG} {m : MM} {n pl tl len : Nat} {B : Nat → Int32} {P : List Enm} {K : List Ko} {gc : Nat → Nat → Nat → Int32} {g : Sg} {k : Nat} {st : List Int32} {v : Int32} (hN : PN n pl) (hT : TT n tl) (h : CX G m n pl tl len B P K gc g k st) : ∃ m1, M_X7_addTrace G (n + 210) v m = some ((), m1) ∧ CX G m1 n pl tl len B P K gc (trc g v) k st ∧ OX m m1 n pl := by
  have h8 := h.p8
  obtain ⟨a1, a2, a3, a4, a5, a6, a7⟩ := h
  have hN2 := hN
  unfold PN at hN2
  obtain ⟨t1, t2, t3⟩ := tad_get (v := v) a3.2.1
  unfold M_X7_addTrace
  rw [nb_e a4.1, a4.2.2.2.1, a3.1]
  by_cases w : 200 ≤ g.2.2.2.2.length
  · rw [if_pos ((nI_leI (by omega) (by have := a3.2.1; omega)).mpr w)]
    refine ⟨m, rfl, ⟨a1, a2, ?_, a4, a5, a6, a7⟩, OX.rf⟩
    show CTr m n (tad g.2.2.2.2 v)
    rw [t2 w]
    exact a3
  · have hl : g.2.2.2.2.length < 200 := by omega
    rw [if_neg (fun z => w ((nI_leI (by omega) (by omega)).mp z)), ib_n (by omega) (by omega), nI_clamp (by omega), gI_sI_ne (Or.inl (by omega)), a3.1, nI_1]
    have o : OX m (sI (sI m (n + 211) g.2.2.2.2.length v) (n + 210) 2 (nI (g.2.2.2.2.length + 1))) n pl := (OX.r hN (by omega)).tr (OX.r hN (by omega))
    refine ⟨_, rfl, ⟨a1.ox hN hT o, CSg.eq (g := g) a2 (fun e he => ⟨?_, ?_, ?_⟩), ?_, a4, ?_, ?_, a7.kept (fun j hj => ?_)⟩, o⟩
    · rw [sI_ne (by omega), sI_ne (by omega)]
    · rw [sI_ne (by omega), sI_ne (by omega)]
    · rw [sI_ne (by omega), sI_ne (by omega)]
    · show CTr _ n (tad g.2.2.2.2 v)
      rw [t3 hl]
      refine ⟨by rw [gI_sI_eq, List.length_append]; rfl, by rw [List.length_append, List.length_singleton]; omega, fun i v' hi => ?_⟩
      rw [gI_sI_ne (Or.inl (by omega))]
      rcases ap_get hi with ⟨z1, z2⟩ | ⟨z1, z2⟩
      · rw [gI_sI_ne (Or.inr (by omega))]
        exact a3.2.2 i v' z2
      · rw [z1, z2, gI_sI_eq]
    · rw [gI_sI_ne (Or.inr (by omega)), gI_sI_ne (Or.inl (by omega))]
      exact a5
    · rw [gI_sI_ne (Or.inr (by omega)), gI_sI_ne (Or.inl (by omega))]
      exact a6
    · rw [gI_sI_ne (Or.inl (by omega)), gI_sI_ne (Or.inl (by omega))]
/-- a write into an enumeration's state, values or fields -/
theorem CX.enm {G : GG} {m m1 : MM} {n pl tl len e : Nat} {B : Nat → Int32} {P : List Enm} {K : List Ko} {gc : Nat → Nat → Nat → Int32} {g g1 : Sg} {k : Nat} {st : List Int32} (hN : PN n pl) (hT : TT n tl) (h : CX G m n pl tl len B P K gc g k st) (o : OX m m1 n pl) (ho : ∀ a, a ≠ pl + 4 + 12 * e → a ≠ pl + 4 + 12 * e + 9 → a ≠ pl + 4 + 12 * e + 10 → m1.1 a = m.1 a) (he : e < P.length) (hs : ∀ x, x ≠ e → same x g g1) (htr : g1.2.2.2.2 = g.2.2.2.2) (h1 : ∀ E, P[e]? = some E → gI m1 (pl + 4 + 12 * e) 17 = nI (g1.1 e) ∧ gI m1 (pl + 4 + 12 * e) 18 = nI (min (g1.2.1 e) E.2.1.length) ∧ (∀ c, c < E.2.1.length → gI m1 (pl + 4 + 12 * e + 10) c = g1.2.2.1 e c) ∧ ∀ i q, (fls E.2.2)[i]? = some q → gI m1 (pl + 4 + 12 * e + 9) i = if q.1 = 8 then nI q.2.2.1 else g1.2.2.2.1 e i) : CX G m1 n pl tl len B P K gc g1 k st := by
  have h8 := h.p8
  obtain ⟨a1, a2, a3, a4, a5, a6, a7⟩ := h
  have hN2 := hN
  unfold PN at hN2
  have hr : ∀ a j, gR m1 a j = gR m a j := fun a j => by show m1.2.2 a j = m.2.2 a j; rw [o.1]
  have hi : ∀ a, a ≠ pl + 4 + 12 * e → a ≠ pl + 4 + 12 * e + 9 → a ≠ pl + 4 + 12 * e + 10 → ∀ j, gI m1 a j = gI m a j := fun a x y z j => congrFun (ho a x y z) j
  refine ⟨a1.ox hN hT o, fun x X hX => ?_, ?_, ⟨by rw [hr]; exact a4.1, by rw [hr]; exact a4.2.1, by rw [hr]; exact a4.2.2.1, a4.2.2.2⟩, by rw [hi _ (by omega) (by omega) (by omega)]; exact a5, by rw [hi _ (by omega) (by omega) (by omega)]; exact a6, a7.kept (fun j _ => hi _ (by omega) (by omega) (by omega) j)⟩
  · by_cases ex : x = e
    · subst ex
      exact h1 X hX
    · obtain ⟨b1, b2, b3, b4⟩ := a2 x X hX
      obtain ⟨s1, s2, s3, s4⟩ := hs x ex
      have hx := get_lt hX
      refine ⟨?_, ?_, fun c hc => ?_, fun i q hq => ?_⟩
      · rw [hi _ (by omega) (by omega) (by omega), s1]; exact b1
      · rw [hi _ (by omega) (by omega) (by omega), s2]; exact b2
      · rw [hi _ (by omega) (by omega) (by omega), s3]; exact b3 c hc
      · rw [hi _ (by omega) (by omega) (by omega), s4]; exact b4 i q hq
  · rw [htr]
    exact ⟨by rw [hi _ (by omega) (by omega) (by omega)]; exact a3.1, a3.2.1, fun i v hv => by rw [hi _ (by omega) (by omega) (by omega)]; exact a3.2.2 i v hv⟩
