/-! ===== L2: what the reference holds of a text ===== -/
def isA (q : Ko) : Bool := decide (1 ≤ q.1.1) && decide (q.1.1 ≤ 11)
def aK (K : List Ko) : List Ko := K.filter isA
/-- how many acts stand before a place of the code -/
def ct (K : List Ko) (a : Nat) : Nat := (aK (K.take a)).length
/-- the exp at a place of the code -/
def SG (K : List Ko) (a : Nat) (s : List Ko) : Prop := ∃ pre post st, K = pre ++ s ++ st :: post ∧ pre.length = a ∧ st.1.1 = 0 ∧ ∀ q ∈ s, opB q.1
theorem SG.app {K X : List Ko} {a : Nat} {s : List Ko} (h : SG K a s) : SG (K ++ X) a s := by
  obtain ⟨pre, post, st, h1, h2, h3, h4⟩ := h
  exact ⟨pre, post ++ X, st, by rw [h1]; simp, h2, h3, h4⟩
theorem SG.le {K : List Ko} {a : Nat} {s : List Ko} (h : SG K a s) : a ≤ K.length := by
  obtain ⟨pre, post, st, h1, h2, h3, h4⟩ := h
  rw [h1, ← h2]
  simp
theorem ct_app {K X : List Ko} {a : Nat} (h : a ≤ K.length) : ct (K ++ X) a = ct K a := by
  unfold ct
  rw [List.take_append_of_le_length h]
def gvi : Nat → List Ko → List (Nat × Ko)
  | _, [] => []
  | i, q :: K => if q.1.1 = 14 then (i, q) :: gvi (i + 1) K else gvi (i + 1) K
theorem gvi_app : ∀ (K X : List Ko) (i : Nat), gvi i (K ++ X) = gvi i K ++ gvi (i + K.length) X := by
  intro K
  induction K with
  | nil => intro X i; simp [gvi]
  | cons q K ih =>
    intro X i
    simp only [List.cons_append, gvi, List.length_cons]
    rw [ih X (i + 1), show i + 1 + K.length = i + (K.length + 1) by omega]
    split <;> rfl
theorem gvi_none : ∀ (X : List Ko) (i : Nat), (∀ q ∈ X, q.1.1 ≠ 14) → gvi i X = [] := by
  intro X
  induction X with
  | nil => intro i _; rfl
  | cons q K ih =>
    intro i h
    simp only [gvi]
    rw [if_neg (h q (by simp))]
    exact ih (i + 1) (fun z hz => h z (by simp [hz]))
def QC (m : MM) (d : Nat) (B : Nat → Int32) (ge : Nat) (cs : List Con) : Prop := gI m (d + 6) ge = nI cs.length ∧ ∀ c q, cs[c]? = some q → gI m (d + 11) (12 * ge + c) = nI q.1 ∧ gI m (d + 12) (12 * ge + c) = nI (nl B q.1) ∧ gI m (d + 13) (12 * ge + c) = nI q.2.1 ∧ gI m (d + 14) (12 * ge + c) = nI q.2.2
def QM (m : MM) (d : Nat) (B : Nat → Int32) (ge : Nat) (K : List Ko) (ms : List Mem) : Prop := gI m (d + 7) ge = nI (mbs ms).length ∧ ∀ i q, (mbs ms)[i]? = some q → gI m (d + 15) (8 * ge + i) = nI q.2.1 ∧ gI m (d + 16) (8 * ge + i) = nI (nl B q.2.1) ∧ (q.1 = 5 → gI m (d + 17) (8 * ge + i) = -1) ∧ (q.1 = 6 → ∃ s, SG K q.2.2.2 s ∧ gI m (d + 17) (8 * ge + i) = nI (ct K q.2.2.2) ∧ gI m (d + 18) (8 * ge + i) = nI (ct K q.2.2.2 + s.length))
def QF (m : MM) (d : Nat) (B : Nat → Int32) (ge : Nat) (K : List Ko) (ms : List Mem) : Prop := gI m (d + 8) ge = nI (fls ms).length ∧ ∀ i q, (fls ms)[i]? = some q → gI m (d + 19) (6 * ge + i) = nI q.2.1 ∧ gI m (d + 20) (6 * ge + i) = nI (nl B q.2.1) ∧ (q.1 = 8 → gI m (d + 22) (6 * ge + i) = -1 ∧ gI m (d + 21) (6 * ge + i) = nI q.2.2.1) ∧ (q.1 = 7 → ∃ s, SG K q.2.2.2 s ∧ gI m (d + 22) (6 * ge + i) = nI (ct K q.2.2.2) ∧ gI m (d + 23) (6 * ge + i) = nI (ct K q.2.2.2 + s.length))
def QK (m : MM) (d : Nat) (ge : Nat) (K : List Ko) (mk : List Mem) : Prop := match mk with
  | [] => gI m (d + 9) ge = -1 ∧ gI m (d + 38) ge = -1
  | q :: l => (∃ s, SG K q.2.2.2 s ∧ gI m (d + 9) ge = nI (ct K q.2.2.2) ∧ gI m (d + 10) ge = nI (ct K q.2.2.2 + s.length)) ∧ match l with
    | [] => gI m (d + 38) ge = -1
    | r :: _ => gI m (d + 38) ge = nI r.2.1
def QE (m : MM) (d tt : Nat) (B : Nat → Int32) (K : List Ko) (e : Nat) (E : Enm) : Prop := gI m (d + 4) (8 * tt + e) = nI E.1 ∧ gI m (d + 5) (8 * tt + e) = nI (nl B E.1) ∧ QC m d B (8 * tt + e) E.2.1 ∧ QM m d B (8 * tt + e) K E.2.2 ∧ QF m d B (8 * tt + e) K E.2.2 ∧ QK m d (8 * tt + e) K (mks E.2.2)
def QP (m : MM) (d tt : Nat) (B : Nat → Int32) (K : List Ko) (P : List Enm) : Prop := gI m (d + 3) tt = nI P.length ∧ ∀ e E, P[e]? = some E → QE m d tt B K e E
def GQ (m : MM) (d tt : Nat) (B : Nat → Int32) (K : List Ko) (g : Nat) (x : Nat × Ko) : Prop := gI m (d + 25) (520 * tt + g) = nI (12 * (8 * tt + x.2.2.1) + x.2.2.2.2) ∧ gI m (d + 26) (520 * tt + g) = nI x.2.1.2.1 ∧ gI m (d + 27) (520 * tt + g) = nI (nl B x.2.1.2.1) ∧ ∃ s, SG K (x.1 + 1) s ∧ gI m (d + 28) (520 * tt + g) = nI (ct K (x.1 + 1)) ∧ gI m (d + 29) (520 * tt + g) = nI (ct K (x.1 + 1) + s.length)
def GV (m : MM) (d tt : Nat) (B : Nat → Int32) (K : List Ko) : Prop := gI m (d + 24) tt = nI (gvi 0 K).length ∧ ∀ g x, (gvi 0 K)[g]? = some x → GQ m d tt B K g x
/-- more code changes nothing of what is held -/
theorem QM.app {m : MM} {d ge : Nat} {B : Nat → Int32} {K X : List Ko} {ms : List Mem} (h : QM m d B ge K ms) : QM m d B ge (K ++ X) ms := by
  refine ⟨h.1, fun i q hq => ?_⟩
  obtain ⟨a1, a2, a3, a4⟩ := h.2 i q hq
  refine ⟨a1, a2, a3, fun z => ?_⟩
  obtain ⟨s, b1, b2, b3⟩ := a4 z
  exact ⟨s, b1.app, by rw [ct_app b1.le]; exact b2, by rw [ct_app b1.le]; exact b3⟩
theorem QF.app {m : MM} {d ge : Nat} {B : Nat → Int32} {K X : List Ko} {ms : List Mem} (h : QF m d B ge K ms) : QF m d B ge (K ++ X) ms := by
  refine ⟨h.1, fun i q hq => ?_⟩
  obtain ⟨a1, a2, a3, a4⟩ := h.2 i q hq
  refine ⟨a1, a2, a3, fun z => ?_⟩
  obtain ⟨s, b1, b2, b3⟩ := a4 z
  exact ⟨s, b1.app, by rw [ct_app b1.le]; exact b2, by rw [ct_app b1.le]; exact b3⟩
theorem QK.app {m : MM} {d ge : Nat} {K X : List Ko} {mk : List Mem} (h : QK m d ge K mk) : QK m d ge (K ++ X) mk := by
  cases mk with
  | nil => exact h
  | cons q l =>
    obtain ⟨⟨s, b1, b2, b3⟩, h2⟩ := h
    exact ⟨⟨s, b1.app, by rw [ct_app b1.le]; exact b2, by rw [ct_app b1.le]; exact b3⟩, h2⟩
theorem QP.app {m : MM} {d tt : Nat} {B : Nat → Int32} {K X : List Ko} {P : List Enm} (h : QP m d tt B K P) : QP m d tt B (K ++ X) P := by
  refine ⟨h.1, fun e E hE => ?_⟩
  obtain ⟨a1, a2, a3, a4, a5, a6⟩ := h.2 e E hE
  exact ⟨a1, a2, a3, a4.app, a5.app, a6.app⟩
theorem GV.app {m : MM} {d tt : Nat} {B : Nat → Int32} {K X : List Ko} (h : GV m d tt B K) (hX : ∀ q ∈ X, q.1.1 ≠ 14) : GV m d tt B (K ++ X) := by
  have e : gvi 0 (K ++ X) = gvi 0 K := by rw [gvi_app, gvi_none X _ hX, List.append_nil]
  refine ⟨by rw [e]; exact h.1, fun g x hx => ?_⟩
  rw [e] at hx
  obtain ⟨a1, a2, a3, s, b1, b2, b3⟩ := h.2 g x hx
  exact ⟨a1, a2, a3, s, b1.app, by rw [ct_app b1.le]; exact b2, by rw [ct_app b1.le]; exact b3⟩
/-- a change of these arrays' equal places keeps what is held -/
def EQA (m m1 : MM) (d : Nat) (os : List Nat) : Prop := ∀ o ∈ os, m1.1 (d + o) = m.1 (d + o)
theorem EQA.g {m m1 : MM} {d : Nat} {os : List Nat} (h : EQA m m1 d os) {o : Nat} (ho : o ∈ os) (j : Nat) : gI m1 (d + o) j = gI m (d + o) j := congrFun (h o ho) j
theorem QC.eq {m m1 : MM} {d ge : Nat} {B : Nat → Int32} {cs : List Con} (h : QC m d B ge cs) (o : EQA m m1 d [6, 11, 12, 13, 14]) : QC m1 d B ge cs := by
  refine ⟨by rw [o.g (by simp)]; exact h.1, fun c q hq => ?_⟩
  obtain ⟨a1, a2, a3, a4⟩ := h.2 c q hq
  exact ⟨by rw [o.g (by simp)]; exact a1, by rw [o.g (by simp)]; exact a2, by rw [o.g (by simp)]; exact a3, by rw [o.g (by simp)]; exact a4⟩
theorem QM.eq {m m1 : MM} {d ge : Nat} {B : Nat → Int32} {K : List Ko} {ms : List Mem} (h : QM m d B ge K ms) (o : EQA m m1 d [7, 15, 16, 17, 18]) : QM m1 d B ge K ms := by
  refine ⟨by rw [o.g (by simp)]; exact h.1, fun i q hq => ?_⟩
  obtain ⟨a1, a2, a3, a4⟩ := h.2 i q hq
  refine ⟨by rw [o.g (by simp)]; exact a1, by rw [o.g (by simp)]; exact a2, fun z => by rw [o.g (by simp)]; exact a3 z, fun z => ?_⟩
  obtain ⟨s, b1, b2, b3⟩ := a4 z
  exact ⟨s, b1, by rw [o.g (by simp)]; exact b2, by rw [o.g (by simp)]; exact b3⟩
theorem QF.eq {m m1 : MM} {d ge : Nat} {B : Nat → Int32} {K : List Ko} {ms : List Mem} (h : QF m d B ge K ms) (o : EQA m m1 d [8, 19, 20, 21, 22, 23]) : QF m1 d B ge K ms := by
  refine ⟨by rw [o.g (by simp)]; exact h.1, fun i q hq => ?_⟩
  obtain ⟨a1, a2, a3, a4⟩ := h.2 i q hq
  refine ⟨by rw [o.g (by simp)]; exact a1, by rw [o.g (by simp)]; exact a2, fun z => ⟨by rw [o.g (by simp)]; exact (a3 z).1, by rw [o.g (by simp)]; exact (a3 z).2⟩, fun z => ?_⟩
  obtain ⟨s, b1, b2, b3⟩ := a4 z
  exact ⟨s, b1, by rw [o.g (by simp)]; exact b2, by rw [o.g (by simp)]; exact b3⟩
theorem QK.eq {m m1 : MM} {d ge : Nat} {K : List Ko} {mk : List Mem} (h : QK m d ge K mk) (o : EQA m m1 d [9, 10, 38]) : QK m1 d ge K mk := by
  cases mk with
  | nil => exact ⟨by rw [o.g (by simp)]; exact h.1, by rw [o.g (by simp)]; exact h.2⟩
  | cons q l =>
    obtain ⟨⟨s, b1, b2, b3⟩, h2⟩ := h
    refine ⟨⟨s, b1, by rw [o.g (by simp)]; exact b2, by rw [o.g (by simp)]; exact b3⟩, ?_⟩
    cases l with
    | nil => show gI m1 (d + 38) ge = -1; rw [o.g (by simp)]; exact h2
    | cons r l => show gI m1 (d + 38) ge = _; rw [o.g (by simp)]; exact h2
/-- only the cells of one enumeration change -/
def EO (m m1 : MM) (d ge : Nat) : Prop := m1.1 (d + 3) = m.1 (d + 3) ∧ (∀ o j, (4 ≤ o ∧ o ≤ 10) ∨ o = 38 → j ≠ ge → gI m1 (d + o) j = gI m (d + o) j) ∧ (∀ o j, 11 ≤ o → o ≤ 14 → j < 12 * ge ∨ 12 * ge + 12 ≤ j → gI m1 (d + o) j = gI m (d + o) j) ∧ (∀ o j, 15 ≤ o → o ≤ 18 → j < 8 * ge ∨ 8 * ge + 8 ≤ j → gI m1 (d + o) j = gI m (d + o) j) ∧ (∀ o j, 19 ≤ o → o ≤ 23 → j < 6 * ge ∨ 6 * ge + 6 ≤ j → gI m1 (d + o) j = gI m (d + o) j)
theorem QE.other {m m1 : MM} {d tt e ge : Nat} {B : Nat → Int32} {K : List Ko} {E : Enm} (h : QE m d tt B K e E) (o : EO m m1 d ge) (hne : 8 * tt + e ≠ ge) (hB : EB E.2.1 E.2.2) : QE m1 d tt B K e E := by
  obtain ⟨o1, o2, o3, o4, o5⟩ := o
  obtain ⟨h1, h2, h3, h4, h5, h6⟩ := h
  obtain ⟨c1, c2, c3, -⟩ := hB
  refine ⟨by rw [o2 _ _ (by omega) hne]; exact h1, by rw [o2 _ _ (by omega) hne]; exact h2, ⟨by rw [o2 _ _ (by omega) hne]; exact h3.1, fun c q hq => ?_⟩, ⟨by rw [o2 _ _ (by omega) hne]; exact h4.1, fun i q hq => ?_⟩, ⟨by rw [o2 _ _ (by omega) hne]; exact h5.1, fun i q hq => ?_⟩, ?_⟩
  · have hc := get_lt hq
    obtain ⟨a1, a2, a3, a4⟩ := h3.2 c q hq
    exact ⟨by rw [o3 _ _ (by omega) (by omega) (by omega)]; exact a1, by rw [o3 _ _ (by omega) (by omega) (by omega)]; exact a2, by rw [o3 _ _ (by omega) (by omega) (by omega)]; exact a3, by rw [o3 _ _ (by omega) (by omega) (by omega)]; exact a4⟩
  · have hc := get_lt hq
    obtain ⟨a1, a2, a3, a4⟩ := h4.2 i q hq
    refine ⟨by rw [o4 _ _ (by omega) (by omega) (by omega)]; exact a1, by rw [o4 _ _ (by omega) (by omega) (by omega)]; exact a2, fun z => by rw [o4 _ _ (by omega) (by omega) (by omega)]; exact a3 z, fun z => ?_⟩
    obtain ⟨s, b1, b2, b3⟩ := a4 z
    exact ⟨s, b1, by rw [o4 _ _ (by omega) (by omega) (by omega)]; exact b2, by rw [o4 _ _ (by omega) (by omega) (by omega)]; exact b3⟩
  · have hc := get_lt hq
    obtain ⟨a1, a2, a3, a4⟩ := h5.2 i q hq
    refine ⟨by rw [o5 _ _ (by omega) (by omega) (by omega)]; exact a1, by rw [o5 _ _ (by omega) (by omega) (by omega)]; exact a2, fun z => ⟨by rw [o5 _ _ (by omega) (by omega) (by omega)]; exact (a3 z).1, by rw [o5 _ _ (by omega) (by omega) (by omega)]; exact (a3 z).2⟩, fun z => ?_⟩
    obtain ⟨s, b1, b2, b3⟩ := a4 z
    exact ⟨s, b1, by rw [o5 _ _ (by omega) (by omega) (by omega)]; exact b2, by rw [o5 _ _ (by omega) (by omega) (by omega)]; exact b3⟩
  · cases hm : mks E.2.2 with
    | nil =>
      rw [hm] at h6
      exact ⟨by rw [o2 _ _ (by omega) hne]; exact h6.1, by rw [o2 _ _ (by omega) hne]; exact h6.2⟩
    | cons q l =>
      rw [hm] at h6
      obtain ⟨⟨s, b1, b2, b3⟩, h2⟩ := h6
      refine ⟨⟨s, b1, by rw [o2 _ _ (by omega) hne]; exact b2, by rw [o2 _ _ (by omega) hne]; exact b3⟩, ?_⟩
      cases l with
      | nil => show gI m1 (d + 38) _ = -1; rw [o2 _ _ (by omega) hne]; exact h2
      | cons r l => show gI m1 (d + 38) _ = _; rw [o2 _ _ (by omega) hne]; exact h2
/-- the last enumeration's part is another -/
theorem QP.last {m m1 : MM} {d tt : Nat} {B : Nat → Int32} {K : List Ko} {Q : List Enm} {E E1 : Enm} (h : QP m d tt B K (Q ++ [E])) (o : EO m m1 d (8 * tt + Q.length)) (hB : PB (Q ++ [E])) (h1 : QE m1 d tt B K Q.length E1) : QP m1 d tt B K (Q ++ [E1]) := by
  refine ⟨?_, fun e E' hE => ?_⟩
  · rw [show gI m1 (d + 3) tt = gI m (d + 3) tt from congrFun o.1 _, h.1]
    simp
  · rcases ap_get hE with ⟨a, b⟩ | ⟨a, b⟩
    · refine (h.2 e E' (by rw [List.getElem?_append_left a]; exact b)).other o (by omega) (hB.2 E' ?_).2
      rw [List.mem_append]
      exact Or.inl (List.mem_of_getElem? b)
    · subst a
      subst b
      exact h1
theorem QP.cur {m : MM} {d tt : Nat} {B : Nat → Int32} {K : List Ko} {Q : List Enm} {E : Enm} (h : QP m d tt B K (Q ++ [E])) : QE m d tt B K Q.length E := h.2 Q.length E get_app
/-! ===== what reading a text may change ===== -/
def OH (m m1 : MM) (d tt : Nat) : Prop := m1.2.1 = m.2.1 ∧ m1.2.2 = m.2.2 ∧ (∀ a, a < d ∨ d + 41 < a ∨ a = d + 1 ∨ a = d + 2 → m1.1 a = m.1 a) ∧ (∀ k, k < 41 ∨ 53 < k → gI m1 d k = gI m d k) ∧ ∀ o, 3 ≤ o → o ≤ 40 → ∀ j, j < hsz o * tt ∨ hsz o * tt + hsz o ≤ j → gI m1 (d + o) j = gI m (d + o) j
theorem OH.rf {m : MM} {d tt : Nat} : OH m m d tt := ⟨rfl, rfl, fun _ _ => rfl, fun _ _ => rfl, fun _ _ _ _ _ => rfl⟩
theorem OH.tr {m m1 m2 : MM} {d tt : Nat} (h : OH m m1 d tt) (h2 : OH m1 m2 d tt) : OH m m2 d tt := by
  obtain ⟨a1, a2, a3, a4, a5⟩ := h
  obtain ⟨b1, b2, b3, b4, b5⟩ := h2
  exact ⟨b1.trans a1, b2.trans a2, fun a ha => (b3 a ha).trans (a3 a ha), fun k hk => (b4 k hk).trans (a4 k hk), fun o h1 h2 j hj => (b5 o h1 h2 j hj).trans (a5 o h1 h2 j hj)⟩
theorem OH.f {m : MM} {d tt k : Nat} {v : Int32} (hk : 41 ≤ k) (hk2 : k ≤ 53) : OH m (sI m d k v) d tt := by
  refine ⟨rfl, rfl, fun a ha => (sI_off (by omega)).1, fun j hj => gI_sI_ne (Or.inr (by omega)), fun o h1 h2 j hj => gI_sI_ne (Or.inl (by omega))⟩
theorem OH.a {m : MM} {d tt o k : Nat} {v : Int32} (h1 : 3 ≤ o) (h2 : o ≤ 40) (h3 : hsz o * tt ≤ k) (h4 : k < hsz o * tt + hsz o) : OH m (sI m (d + o) k v) d tt := by
  refine ⟨rfl, rfl, fun a ha => (sI_off (by omega)).1, fun j hj => gI_sI_ne (Or.inl (by omega)), fun o' q1 q2 j hj => ?_⟩
  by_cases q : o' = o
  · subst q
    exact gI_sI_ne (Or.inr (by omega))
  · exact gI_sI_ne (Or.inl (by omega))
theorem OE.H {m m1 : MM} {d tt : Nat} (h : OE m m1 d tt) : OH m m1 d tt := by
  obtain ⟨a1, a2, a3, a4, a5⟩ := h
  refine ⟨a1, a2, fun a ha => a3 a (by omega), fun k hk => a4 k (by omega), fun o h1 h2 j hj => ?_⟩
  by_cases q : isAo o
  · exact a5 o q j hj
  · unfold isAo at q
    exact congrFun (a3 (d + o) (by omega)) j
theorem OE.eqa {m m1 : MM} {d tt : Nat} (h : OE m m1 d tt) {os : List Nat} (ho : ∀ o ∈ os, 3 ≤ o ∧ (o ≤ 29 ∨ o = 38)) : EQA m m1 d os := fun o hm => by
  have := ho o hm
  exact h.2.2.1 (d + o) (by omega)
theorem QE.eq {m m1 : MM} {d tt e : Nat} {B : Nat → Int32} {K : List Ko} {E : Enm} (h : QE m d tt B K e E) (o : ∀ i, 4 ≤ i → i ≤ 23 ∨ i = 38 → m1.1 (d + i) = m.1 (d + i)) : QE m1 d tt B K e E := by
  obtain ⟨h1, h2, h3, h4, h5, h6⟩ := h
  have g : ∀ i, 4 ≤ i → i ≤ 23 ∨ i = 38 → ∀ j, gI m1 (d + i) j = gI m (d + i) j := fun i i1 i2 j => congrFun (o i i1 i2) j
  have q : ∀ os : List Nat, (∀ i ∈ os, 4 ≤ i ∧ (i ≤ 23 ∨ i = 38)) → EQA m m1 d os := fun os hos i hi => o i (hos i hi).1 (hos i hi).2
  exact ⟨by rw [g 4 (by omega) (by omega)]; exact h1, by rw [g 5 (by omega) (by omega)]; exact h2, h3.eq (q _ (by simp)), h4.eq (q _ (by simp)), h5.eq (q _ (by simp)), h6.eq (q _ (by simp))⟩
theorem QP.oe {m m1 : MM} {d tt : Nat} {B : Nat → Int32} {K : List Ko} {P : List Enm} (h : QP m d tt B K P) (o : OE m m1 d tt) : QP m1 d tt B K P := by
  refine ⟨?_, fun e E hE => (h.2 e E hE).eq (fun i i1 i2 => o.2.2.1 (d + i) (by omega))⟩
  rw [show gI m1 (d + 3) tt = gI m (d + 3) tt from congrFun (o.2.2.1 (d + 3) (by omega)) _]
  exact h.1
theorem GV.eq {m m1 : MM} {d tt : Nat} {B : Nat → Int32} {K : List Ko} (h : GV m d tt B K) (o : ∀ i, 24 ≤ i → i ≤ 29 → m1.1 (d + i) = m.1 (d + i)) : GV m1 d tt B K := by
  have g : ∀ i, 24 ≤ i → i ≤ 29 → ∀ j, gI m1 (d + i) j = gI m (d + i) j := fun i i1 i2 j => congrFun (o i i1 i2) j
  refine ⟨by rw [g 24 (by omega) (by omega)]; exact h.1, fun x y hy => ?_⟩
  obtain ⟨a1, a2, a3, s, b1, b2, b3⟩ := h.2 x y hy
  exact ⟨by rw [g 25 (by omega) (by omega)]; exact a1, by rw [g 26 (by omega) (by omega)]; exact a2, by rw [g 27 (by omega) (by omega)]; exact a3, s, b1, by rw [g 28 (by omega) (by omega)]; exact b2, by rw [g 29 (by omega) (by omega)]; exact b3⟩
theorem GV.oe {m m1 : MM} {d tt : Nat} {B : Nat → Int32} {K : List Ko} (h : GV m d tt B K) (o : OE m m1 d tt) : GV m1 d tt B K := h.eq (fun i i1 i2 => o.2.2.1 (d + i) (by omega))
theorem RE.wr {G : GG} {m : MM} {d tt len e : Nat} {B : Nat → Int32} {A : List Ko} {st : List Nat} {l : List Tok} {F : Option Nat} (h : RE G m d tt len B e A st l F) {o k : Nat} {v : Int32} (h1 : 3 ≤ o) (h2 : o ≤ 29 ∨ o = 38) : RE G (sI m (d + o) k v) d tt len B e A st l F := by
  obtain ⟨g1, g2, g3, g4, g5, g6, g7, g8, g9, g10, g11⟩ := h
  have gd : ∀ j, gI (sI m (d + o) k v) d j = gI m d j := fun j => gI_sI_ne (Or.inl (by omega))
  refine ⟨fun s hs => ⟨(g1 s hs).1, (g1 s hs).2⟩, ⟨by rw [gd]; exact g2.1, g2.2.1, by rw [gd]; exact g2.2.2.1, g2.2.2.2.1, fun i hi => by rw [gI_sI_ne (Or.inl (by omega))]; exact g2.2.2.2.2 i hi⟩, g3, g4.kept (fun j _ _ => gd j), g5.kept (fun i i1 i2 i3 => (sI_off (by omega)).1), by rw [gd]; exact g6, g7.kept (fun j _ => gI_sI_ne (Or.inl (by omega))), by rw [gd]; exact g8, g9.kept (fun j _ _ => gd j), g10, g11⟩
theorem RE.need {G : GG} {m : MM} {d tt len e w : Nat} {B : Nat → Int32} {A : List Ko} {st : List Nat} {l : List Tok} (h : RE G m d tt len B e A st l none) (hw : w < 128) : (hd l = w → ∃ m1, M_X11_need G d (nI w) m = some ((), m1) ∧ RE G m1 d tt len B e A st l.tail none ∧ OE m m1 d tt ∧ A.length + st.length + l.tail.length + 1 ≤ 2001 ∧ l.tail.length + 1 = l.length) ∧ (hd l ≠ w → ∃ m1, M_X11_need G d (nI w) m = some ((), m1) ∧ RE G m1 d tt len B e A st l (some (plc l)) ∧ OE m m1 d tt) := by
  unfold M_X11_need
  rw [bd_e h.gT, if_pos rfl, bd_e (h.isAt hw)]
  refine ⟨fun z => ?_, fun z => ?_⟩
  · rw [decide_eq_true z, if_pos rfl]
    obtain ⟨m1, e1, e2, e3, e4⟩ := h.next (by omega)
    rw [bd_e e1]
    refine ⟨m1, rfl, e2, e3.oh (by simp), e4, ?_⟩
    obtain ⟨c, rs, p1, z1, -⟩ := h.2.2.2.1
    rw [z1]
    simp
  · rw [decide_eq_false z, if_neg ff]
    obtain ⟨m1, e1, e2, e3⟩ := h.stop
    rw [bd_e e1]
    exact ⟨m1, rfl, e2, e3.oh (by simp)⟩
theorem RE.needB {G : GG} {m : MM} {d tt len e p : Nat} {w : Int32} {B : Nat → Int32} {A : List Ko} {st : List Nat} {l : List Tok} (h : RE G m d tt len B e A st l (some p)) : M_X11_need G d w m = some ((), m) := by
  unfold M_X11_need
  rw [bd_e h.gF, if_neg ff, bd_e h.stop2]
