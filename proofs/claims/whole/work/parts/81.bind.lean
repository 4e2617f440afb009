/-! ===== L2: the class's program while it is bound ===== -/
def CR2 (m : MM) (en : Nat) (cs : List Con) : Prop := ∀ c q, cs[c]? = some q → gI m (en + 1) c = nI q.1 ∧ gI m (en + 2) c = nI q.2.1 ∧ gI m (en + 3) c = nI q.2.2
def ECb (m : MM) (en : Nat) (cs : List Con) (ms : List Mem) : Prop := gI m en 11 = nI (nmL cs ms).length ∧ gI m en 12 = nI cs.length ∧ gI m en 13 = nI (mbs ms).length ∧ gI m en 14 = nI (fls ms).length ∧ gI m en 15 = nI (wks ms).length ∧ gI m en 16 = mkC ms ∧ CR2 m en cs ∧ MRs m en ms ∧ (∀ i q, (fls ms)[i]? = some q → gI m (en + 7) i = nI q.2.1 ∧ gI m (en + 8) i = if q.1 = 7 then nI q.2.2.2 else -1) ∧ NRs m en (nmL cs ms)
/-- what a run may change later: state, made, values, numbers of fields -/
def EV (m : MM) (en : Nat) (cs : List Con) (ms : List Mem) : Prop := gI m en 17 = 0 ∧ gI m en 18 = 0 ∧ ∀ i q, (fls ms)[i]? = some q → gI m (en + 9) i = if q.1 = 8 then nI q.2.2.1 else 0
theorem EC.b {m : MM} {en : Nat} {cs : List Con} {ms : List Mem} (h : EC m en cs ms) : ECb m en cs ms ∧ EV m en cs ms := by
  obtain ⟨h1, h2, h3, h4, h5, h6, h7, h8, h9, h10, h11, h12⟩ := h
  exact ⟨⟨h1, h2, h3, h4, h5, h6, fun c q hq => ⟨(h9 c q hq).1, (h9 c q hq).2.1, (h9 c q hq).2.2.1⟩, h10, fun i q hq => ⟨(h11 i q hq).1, (h11 i q hq).2.1⟩, h12⟩, h7, h8, fun i q hq => (h11 i q hq).2.2⟩
/-- only the gives' row of it may differ -/
theorem ECb.kept {m m1 : MM} {en : Nat} {cs : List Con} {ms : List Mem} (h : ECb m en cs ms) (o : ∀ j, 11 ≤ j → j ≤ 16 → gI m1 en j = gI m en j) (o2 : ∀ i, i = 1 ∨ i = 2 ∨ i = 3 ∨ i = 5 ∨ i = 6 ∨ i = 7 ∨ i = 8 ∨ i = 11 → m1.1 (en + i) = m.1 (en + i)) : ECb m1 en cs ms := by
  obtain ⟨h1, h2, h3, h4, h5, h6, h7, h8, h9, h10⟩ := h
  have g : ∀ i, i = 1 ∨ i = 2 ∨ i = 3 ∨ i = 5 ∨ i = 6 ∨ i = 7 ∨ i = 8 ∨ i = 11 → ∀ j, gI m1 (en + i) j = gI m (en + i) j := fun i hi j => congrFun (o2 i hi) j
  refine ⟨by rw [o 11 (by omega) (by omega)]; exact h1, by rw [o 12 (by omega) (by omega)]; exact h2, by rw [o 13 (by omega) (by omega)]; exact h3, by rw [o 14 (by omega) (by omega)]; exact h4, by rw [o 15 (by omega) (by omega)]; exact h5, by rw [o 16 (by omega) (by omega)]; exact h6, fun c q hq => ?_, fun i q hq => ?_, fun i q hq => ?_, fun i p hp => ?_⟩
  · rw [g 1 (by omega), g 2 (by omega), g 3 (by omega)]; exact h7 c q hq
  · rw [g 5 (by omega), g 6 (by omega)]; exact h8 i q hq
  · rw [g 7 (by omega), g 8 (by omega)]; exact h9 i q hq
  · rw [g 11 (by omega)]; exact h10 i p hp
def CV (G : GG) (m : MM) (pg tp len : Nat) (B : Nat → Int32) (P : List Enm) (C : List Int64) (gc : Nat → Nat → Nat → Int32) : Prop := LPg G m pg ∧ gR m pg 5 = some tp ∧ TP G m tp len B ∧ CO G m pg C ∧ gI m pg 3 = nI P.length ∧ PB P ∧ ∀ e E, P[e]? = some E → gI m (pg + 2) e = nI E.1 ∧ ECb m (pg + 4 + 12 * e) E.2.1 E.2.2 ∧ ∀ c i, c < E.2.1.length → i < 8 → gI m (pg + 4 + 12 * e + 4) (c * 8 + i) = gc e c i
theorem CV.off {G : GG} {m m1 : MM} {pg tp len : Nat} {B : Nat → Int32} {P : List Enm} {C : List Int64} {gc : Nat → Nat → Nat → Int32} {l : List Nat} (h : CV G m pg tp len B P C gc) (o : Off m m1 l) (hl : ∀ a ∈ l, (a < pg ∨ pg + 100 ≤ a) ∧ a ≠ tp ∧ a ≠ tp + 1) : CV G m1 pg tp len B P C gc := by
  obtain ⟨h1, h2, h3, h4, h5, h6, h7⟩ := h
  have hn : ∀ a, pg ≤ a → a < pg + 100 → a ∉ l := fun a a1 a2 z => by have := hl a z; omega
  have hP := h6.1
  refine ⟨?_, by rw [o.R (hn _ (by omega) (by omega))]; exact h2, h3.kept o (fun z => (hl _ z).2.1 rfl) (fun z => (hl _ z).2.2 rfl), ?_, by rw [o.I (hn _ (by omega) (by omega))]; exact h5, h6, fun e E hE => ?_⟩
  · obtain ⟨a1, a2, a3, a4, a5⟩ := h1
    refine ⟨by rw [o.R (hn _ (by omega) (by omega))]; exact a1, by rw [o.R (hn _ (by omega) (by omega))]; exact a2, a3, a4, fun e he => ⟨by rw [o.R (hn _ (by omega) (by omega))]; exact (a5 e he).1, fun i hi => ⟨by rw [o.R (hn _ (by omega) (by omega))]; exact ((a5 e he).2 i hi).1, ((a5 e he).2 i hi).2⟩⟩⟩
  · obtain ⟨a1, a2, a3, a4, a5⟩ := h4
    exact ⟨by rw [o.R (hn _ (by omega) (by omega))]; exact a1, a2, by rw [o.I (hn _ (by omega) (by omega))]; exact a3, a4, fun j v hj => by rw [o.L (hn _ (by omega) (by omega))]; exact a5 j v hj⟩
  · have he := get_lt hE
    obtain ⟨a1, a2, a3⟩ := h7 e E hE
    exact ⟨by rw [o.I (hn _ (by omega) (by omega))]; exact a1, a2.kept (fun j _ _ => o.I (hn _ (by omega) (by omega)) j) (fun i hi => (o _ (hn _ (by omega) (by omega))).1), fun c i hc hi => by rw [o.I (hn _ (by omega) (by omega))]; exact a3 c i hc hi⟩
theorem cv_en {G : GG} {m : MM} {pg tp len e : Nat} {B : Nat → Int32} {P : List Enm} {C : List Int64} {gc : Nat → Nat → Nat → Int32} (h : CV G m pg tp len B P C gc) (he : e < P.length) : M_X6_enumAt G pg (nI e) m = some (some (pg + 4 + 12 * e), m) := by
  obtain ⟨⟨a1, a2, a3, a4, a5⟩, h2, h3, h4, h5, h6, h7⟩ := h
  have hP := h6.1
  unfold M_X6_enumAt
  rw [if_neg (nI_pos (by omega)), h5, if_neg (fun z => by have := (nI_leI (by omega) (by omega)).mp z; omega), nb_e a1, a3, if_pos ((nI_ltI (by omega) (by omega)).mpr (by omega)), ib_n (by omega) (by omega), nI_clamp (by omega), (a5 e (by omega)).1]
theorem cv_en0 {G : GG} {m : MM} {pg : Nat} : M_X6_enumAt G pg (-1) m = some (none, m) := by
  unfold M_X6_enumAt
  rw [if_pos (by decide)]
theorem cv_le {G : GG} {m : MM} {pg tp len e : Nat} {B : Nat → Int32} {P : List Enm} {C : List Int64} {gc : Nat → Nat → Nat → Int32} (h : CV G m pg tp len B P C gc) (he : e < P.length) (i : Nat) (hi : i < 11) : gR m (pg + 4 + 12 * e) i = some (pg + 4 + 12 * e + 1 + i) ∧ G.2.2 (pg + 4 + 12 * e + 1 + i) = esz i := by
  have hP := h.2.2.2.2.2.1.1
  exact (h.1.2.2.2.2 e (by omega)).2 i hi
theorem gd_get {l : List Nat} {k p : Nat} (h : l[k]? = some p) : l.getD k 0 = p := by
  rw [List.getD_eq_getElem?_getD, h]
  rfl
theorem cv_mem {G : GG} {m : MM} {pg tp len e p : Nat} {B : Nat → Int32} {P : List Enm} {C : List Int64} {gc : Nat → Nat → Nat → Int32} {E : Enm} (h : CV G m pg tp len B P C gc) (hE : P[e]? = some E) (hp : p < 4096) : M_X8_firstNamed G tp (nI p) (pg + 4 + 12 * e + 5) (gI m (pg + 4 + 12 * e) 13) m = some (oI (fn B p (mbp E)), m) := by
  obtain ⟨b1, b2, b3, b4, b5, b6, b7⟩ := pb_en h.2.2.2.2.2.1 hE
  obtain ⟨c1, c2, c3⟩ := h.2.2.2.2.2.2 e E hE
  have hl := cv_le h (get_lt hE) 4 (by omega)
  have hz : G.2.2 (pg + 4 + 12 * e + 5) = 8 := hl.2
  rw [c2.2.2.1]
  have := tp_firstNamed (ar := pg + 4 + 12 * e + 5) (many := (mbs E.2.2).length) (nm := fun i => (mbp E).getD i 0) h.2.2.1 (show p < 1000000000 by omega) (by omega) (by omega) (fun k hk => ?_)
  · rw [this]
    unfold fn
    rw [show (mbp E).length = (mbs E.2.2).length by simp [mbp]]
  · obtain ⟨x, hx⟩ := lt_get hk
    have hx2 : x ∈ E.2.2 := (List.mem_filter.mp (List.mem_of_getElem? hx)).1
    have := (b7 x hx2).2.2.1
    rw [show (mbp E).getD k 0 = x.2.1 from gd_map hx]
    exact ⟨(c2.2.2.2.2.2.2.2.1 k x hx).1, by omega⟩
theorem cv_fld {G : GG} {m : MM} {pg tp len e p : Nat} {B : Nat → Int32} {P : List Enm} {C : List Int64} {gc : Nat → Nat → Nat → Int32} {E : Enm} (h : CV G m pg tp len B P C gc) (hE : P[e]? = some E) (hp : p < 4096) : M_X8_firstNamed G tp (nI p) (pg + 4 + 12 * e + 7) (gI m (pg + 4 + 12 * e) 14) m = some (oI (fn B p (flp E)), m) := by
  obtain ⟨b1, b2, b3, b4, b5, b6, b7⟩ := pb_en h.2.2.2.2.2.1 hE
  obtain ⟨c1, c2, c3⟩ := h.2.2.2.2.2.2 e E hE
  have hl := cv_le h (get_lt hE) 6 (by omega)
  have hz : G.2.2 (pg + 4 + 12 * e + 7) = 6 := hl.2
  rw [c2.2.2.2.1]
  have := tp_firstNamed (ar := pg + 4 + 12 * e + 7) (many := (fls E.2.2).length) (nm := fun i => (flp E).getD i 0) h.2.2.1 (show p < 1000000000 by omega) (by omega) (by omega) (fun k hk => ?_)
  · rw [this]
    unfold fn
    rw [show (flp E).length = (fls E.2.2).length by simp [flp]]
  · obtain ⟨x, hx⟩ := lt_get hk
    have hx2 : x ∈ E.2.2 := (List.mem_filter.mp (List.mem_of_getElem? hx)).1
    have := (b7 x hx2).2.2.1
    rw [show (flp E).getD k 0 = x.2.1 from gd_map hx]
    exact ⟨(c2.2.2.2.2.2.2.2.2.1 k x hx).1, by omega⟩
theorem cv_con {G : GG} {m : MM} {pg tp len e p : Nat} {B : Nat → Int32} {P : List Enm} {C : List Int64} {gc : Nat → Nat → Nat → Int32} {E : Enm} (h : CV G m pg tp len B P C gc) (hE : P[e]? = some E) (hp : p < 4096) : M_X8_firstNamed G tp (nI p) (pg + 4 + 12 * e + 1) (gI m (pg + 4 + 12 * e) 12) m = some (oI (fn B p (csp E)), m) := by
  obtain ⟨b1, b2, b3, b4, b5, b6, b7⟩ := pb_en h.2.2.2.2.2.1 hE
  obtain ⟨c1, c2, c3⟩ := h.2.2.2.2.2.2 e E hE
  have hl := cv_le h (get_lt hE) 0 (by omega)
  have hz : G.2.2 (pg + 4 + 12 * e + 1) = 12 := hl.2
  rw [c2.2.1]
  have := tp_firstNamed (ar := pg + 4 + 12 * e + 1) (many := E.2.1.length) (nm := fun i => (csp E).getD i 0) h.2.2.1 (show p < 1000000000 by omega) (by omega) (by omega) (fun k hk => ?_)
  · rw [this]
    unfold fn
    rw [show (csp E).length = E.2.1.length by simp [csp]]
  · obtain ⟨x, hx⟩ := lt_get hk
    have := (b6 x (List.mem_of_getElem? hx)).1
    rw [show (csp E).getD k 0 = x.1 from gd_map hx]
    exact ⟨(c2.2.2.2.2.2.2.1 k x hx).1, by omega⟩
theorem cv_enu {G : GG} {m : MM} {pg tp len p : Nat} {B : Nat → Int32} {P : List Enm} {C : List Int64} {gc : Nat → Nat → Nat → Int32} (h : CV G m pg tp len B P C gc) (hp : p < 4096) (k : Nat) (hk : k ≤ P.length) : M_X8_firstNamed G tp (nI p) (pg + 2) (nI k) m = some (oI (fn B p ((enp P).take k)), m) := by
  have hP := h.2.2.2.2.2.1.1
  have hz := h.1.2.2.2.1
  have hk2 : ((enp P).take k).length = k := by simp [enp]; omega
  have := tp_firstNamed (ar := pg + 2) (many := k) (nm := fun i => ((enp P).take k).getD i 0) h.2.2.1 (show p < 1000000000 by omega) (by omega) (by omega) (fun j hj => ?_)
  · rw [this]
    unfold fn
    rw [hk2]
  · obtain ⟨x, hx⟩ := lt_get (show j < P.length by omega)
    have := (pb_en h.2.2.2.2.2.1 hx).2.1
    rw [gd_get (p := x.1) (by rw [List.getElem?_take, if_pos hj]; unfold enp; rw [List.getElem?_map, hx]; rfl)]
    exact ⟨(h.2.2.2.2.2.2 j x hx).1, by omega⟩
theorem cv_nam {G : GG} {m : MM} {pg tp len e p : Nat} {B : Nat → Int32} {P : List Enm} {C : List Int64} {gc : Nat → Nat → Nat → Int32} {E : Enm} (h : CV G m pg tp len B P C gc) (hE : P[e]? = some E) (hp : p < 4096) (k : Nat) (hk : k ≤ (nmL E.2.1 E.2.2).length) : M_X8_firstNamed G tp (nI p) (pg + 4 + 12 * e + 11) (nI k) m = some (oI (fn B p ((nmL E.2.1 E.2.2).take k)), m) := by
  obtain ⟨b1, b2, b3, b4, b5, b6, b7⟩ := pb_en h.2.2.2.2.2.1 hE
  obtain ⟨c1, c2, c3⟩ := h.2.2.2.2.2.2 e E hE
  have hl := cv_le h (get_lt hE) 10 (by omega)
  have hz : G.2.2 (pg + 4 + 12 * e + 11) = 26 := hl.2
  have hnm := EB.nm (h.2.2.2.2.2.1.2 E (List.mem_of_getElem? hE)).2
  have hk2 : ((nmL E.2.1 E.2.2).take k).length = k := by simp; omega
  have := tp_firstNamed (ar := pg + 4 + 12 * e + 11) (many := k) (nm := fun i => ((nmL E.2.1 E.2.2).take k).getD i 0) h.2.2.1 (show p < 1000000000 by omega) (by omega) (by omega) (fun j hj => ?_)
  · rw [this]
    unfold fn
    rw [hk2]
  · obtain ⟨x, hx⟩ := lt_get (show j < (nmL E.2.1 E.2.2).length by omega)
    rw [gd_get (p := x) (by rw [List.getElem?_take, if_pos hj]; exact hx)]
    refine ⟨c2.2.2.2.2.2.2.2.2.2 j x hx, ?_⟩
    rcases List.mem_append.mp (List.mem_of_getElem? hx) with z | z
    · obtain ⟨y, hy, rfl⟩ := List.mem_map.mp z
      have := (b6 y hy).1
      omega
    · obtain ⟨y, hy, rfl⟩ := List.mem_map.mp z
      have := (b7 y (List.mem_filter.mp hy).1).2.2.1
      omega
theorem cv_hasC {G : GG} {m : MM} {pg tp len e c : Nat} {B : Nat → Int32} {P : List Enm} {C : List Int64} {gc : Nat → Nat → Nat → Int32} {E : Enm} (h : CV G m pg tp len B P C gc) (hE : P[e]? = some E) (hc : c < E.2.1.length) : M_X1_hasConstant G (pg + 4 + 12 * e) (nI c) m = some (true, m) := by
  obtain ⟨b1, b2, b3, b4, b5, b6, b7⟩ := pb_en h.2.2.2.2.2.1 hE
  obtain ⟨c1, c2, c3⟩ := h.2.2.2.2.2.2 e E hE
  unfold M_X1_hasConstant
  rw [if_neg (nI_pos (by omega)), c2.2.1, if_neg (fun z => by have := (nI_leI (by omega) (by omega)).mp z; omega), show (12 : Int32) = nI 12 from rfl, if_neg (fun z => by have := (nI_leI (by omega) (by omega)).mp z; omega)]
theorem cv_hasM {G : GG} {m : MM} {pg tp len e c : Nat} {B : Nat → Int32} {P : List Enm} {C : List Int64} {gc : Nat → Nat → Nat → Int32} {E : Enm} (h : CV G m pg tp len B P C gc) (hE : P[e]? = some E) (hc : c < (mbs E.2.2).length) : M_X1_hasMember G (pg + 4 + 12 * e) (nI c) m = some (true, m) := by
  obtain ⟨b1, b2, b3, b4, b5, b6, b7⟩ := pb_en h.2.2.2.2.2.1 hE
  obtain ⟨c1, c2, c3⟩ := h.2.2.2.2.2.2 e E hE
  unfold M_X1_hasMember
  rw [if_neg (nI_pos (by omega)), c2.2.2.1, if_neg (fun z => by have := (nI_leI (by omega) (by omega)).mp z; omega), show (8 : Int32) = nI 8 from rfl, if_neg (fun z => by have := (nI_leI (by omega) (by omega)).mp z; omega)]
theorem cv_hasF {G : GG} {m : MM} {pg tp len e c : Nat} {B : Nat → Int32} {P : List Enm} {C : List Int64} {gc : Nat → Nat → Nat → Int32} {E : Enm} (h : CV G m pg tp len B P C gc) (hE : P[e]? = some E) (hc : c < (fls E.2.2).length) : M_X1_hasField G (pg + 4 + 12 * e) (nI c) m = some (true, m) := by
  obtain ⟨b1, b2, b3, b4, b5, b6, b7⟩ := pb_en h.2.2.2.2.2.1 hE
  obtain ⟨c1, c2, c3⟩ := h.2.2.2.2.2.2 e E hE
  unfold M_X1_hasField
  rw [if_neg (nI_pos (by omega)), c2.2.2.2.1, if_neg (fun z => by have := (nI_leI (by omega) (by omega)).mp z; omega), show (6 : Int32) = nI 6 from rfl, if_neg (fun z => by have := (nI_leI (by omega) (by omega)).mp z; omega)]
theorem cv_give {G : GG} {m : MM} {pg tp len e c i : Nat} {B : Nat → Int32} {P : List Enm} {C : List Int64} {gc : Nat → Nat → Nat → Int32} {E : Enm} (h : CV G m pg tp len B P C gc) (hE : P[e]? = some E) (hc : c < E.2.1.length) (hi : i < (mbs E.2.2).length) : M_X1_giveCode G (pg + 4 + 12 * e) (nI c) (nI i) m = some (gc e c i, m) := by
  obtain ⟨b1, b2, b3, b4, b5, b6, b7⟩ := pb_en h.2.2.2.2.2.1 hE
  obtain ⟨c1, c2, c3⟩ := h.2.2.2.2.2.2 e E hE
  have hl := cv_le h (get_lt hE) 3 (by omega)
  have hz : G.2.2 (pg + 4 + 12 * e + 1 + 3) = 96 := hl.2
  unfold M_X1_giveCode
  rw [bd_e (cv_hasC h hE hc), if_pos rfl, bd_e (cv_hasM h hE hi), if_pos rfl, nb_e hl.1, hz, show (8 : Int32) = nI 8 from rfl, pk_mul, nI_add, ib_n (by omega) (by omega), nI_clamp (by omega)]
  rw [show pg + 4 + 12 * e + 1 + 3 = pg + 4 + 12 * e + 4 by omega, c3 c i hc (by omega)]
theorem cv_wrk {G : GG} {m : MM} {pg tp len e i : Nat} {B : Nat → Int32} {P : List Enm} {C : List Int64} {gc : Nat → Nat → Nat → Int32} {E : Enm} {y : Mem} (h : CV G m pg tp len B P C gc) (hE : P[e]? = some E) (hy : (fls E.2.2)[i]? = some y) : M_X1_isWorked G (pg + 4 + 12 * e) (nI i) m = some (decide (y.1 = 7), m) := by
  obtain ⟨b1, b2, b3, b4, b5, b6, b7⟩ := pb_en h.2.2.2.2.2.1 hE
  obtain ⟨c1, c2, c3⟩ := h.2.2.2.2.2.2 e E hE
  have hi := get_lt hy
  have hl := cv_le h (get_lt hE) 7 (by omega)
  have hz : G.2.2 (pg + 4 + 12 * e + 1 + 7) = 6 := hl.2
  have hy2 : y ∈ E.2.2 := (List.mem_filter.mp (List.mem_of_getElem? hy)).1
  have hya := (b7 y hy2).2.2.2.2
  unfold M_X1_isWorked
  rw [bd_e (cv_hasF h hE hi), if_pos rfl, nb_e hl.1, hz, ib_n (by omega) (by omega), nI_clamp (by omega), show pg + 4 + 12 * e + 1 + 7 = pg + 4 + 12 * e + 8 by omega, (c2.2.2.2.2.2.2.2.2.1 i y hy).2]
  by_cases z : y.1 = 7
  · rw [if_pos z, if_neg (fun w => nI_pos (n := y.2.2.2) (by omega) (by rw [w]; decide)), decide_eq_true z]
  · rw [if_neg z, if_pos rfl, decide_eq_false z]
theorem cv_abs {G : GG} {m : MM} {pg tp len e i : Nat} {B : Nat → Int32} {P : List Enm} {C : List Int64} {gc : Nat → Nat → Nat → Int32} {E : Enm} {y : Mem} (h : CV G m pg tp len B P C gc) (hE : P[e]? = some E) (hy : (mbs E.2.2)[i]? = some y) : M_X1_isAbstract G (pg + 4 + 12 * e) (nI i) m = some (decide (y.1 = 5), m) := by
  obtain ⟨b1, b2, b3, b4, b5, b6, b7⟩ := pb_en h.2.2.2.2.2.1 hE
  obtain ⟨c1, c2, c3⟩ := h.2.2.2.2.2.2 e E hE
  have hi := get_lt hy
  have hl := cv_le h (get_lt hE) 5 (by omega)
  have hz : G.2.2 (pg + 4 + 12 * e + 1 + 5) = 8 := hl.2
  have hy2 : y ∈ E.2.2 := (List.mem_filter.mp (List.mem_of_getElem? hy)).1
  have hya := (b7 y hy2).2.2.2.2
  unfold M_X1_isAbstract
  rw [bd_e (cv_hasM h hE hi), if_pos rfl, nb_e hl.1, hz, ib_n (by omega) (by omega), nI_clamp (by omega), show pg + 4 + 12 * e + 1 + 5 = pg + 4 + 12 * e + 6 by omega, (c2.2.2.2.2.2.2.2.1 i y hy).2]
  by_cases z : y.1 = 5
  · rw [if_pos z, if_pos rfl, decide_eq_true z]
  · rw [if_neg z, if_neg (fun w => nI_pos (n := y.2.2.2) (by omega) (by rw [w]; decide)), decide_eq_false z]
/-! the code's rows -/
theorem co_op {G : GG} {m : MM} {pg k a op : Nat} {C : List Int64} (h : CO G m pg C) (hk : C[k]? = some (lN (a * 16 + op))) (ho : op < 16) (ha : a < 2 ^ 31) : M_X6_opAt G pg (nI k) m = some (nI op, m) ∧ M_X6_operandAt G pg (nI k) m = some (nI a, m) := by
  obtain ⟨a1, a2, a3, a4, a5⟩ := h
  have hl := get_lt hk
  have e1 : lN (a * 16 + op) / 16 = lN a := by
    rw [show (16 : Int64) = lN 16 from rfl, pk_lDiv (by omega) (by omega) (by omega), show (a * 16 + op) / 16 = a by omega]
  unfold M_X6_opAt M_X6_operandAt
  rw [if_neg (nI_pos (by omega)), if_neg (nI_pos (by omega)), a3, if_neg (fun z => by have := (nI_leI (by omega) (by omega)).mp z; omega), if_neg (fun z => by have := (nI_leI (by omega) (by omega)).mp z; omega), nb_e a1, nb_e a1, a2, if_pos ((nI_ltI (by omega) (by omega)).mpr (by omega)), if_pos ((nI_ltI (by omega) (by omega)).mpr (by omega)), ib_n (by omega) (by omega), ib_n (by omega) (by omega), nI_clamp (by omega), a5 k _ hk, e1, lN_i, show (16 : Int64) = lN 16 from rfl, lN_mul, lN_sub (by omega), show a * 16 + op - a * 16 = op by omega, lN_i]
  exact ⟨rfl, rfl⟩
theorem co_bind {G : GG} {m : MM} {pg k a op f : Nat} {C : List Int64} (h : CO G m pg C) (hk : C[k]? = some (lN (a * 16 + op))) (ho : op < 16) (ha : a < 2 ^ 31) (hf : f < 2 ^ 31) : M_X6_bindTo G pg (nI k) (nI f) m = some ((), sL m (pg + 3) k (lN (f * 16 + op))) ∧ CO G (sL m (pg + 3) k (lN (f * 16 + op))) pg (C.set k (lN (f * 16 + op))) := by
  have h0 := h
  obtain ⟨a1, a2, a3, a4, a5⟩ := h
  have hl := get_lt hk
  constructor
  · unfold M_X6_bindTo
    rw [if_neg (nI_pos (by omega)), a3, if_neg (fun z => by have := (nI_leI (by omega) (by omega)).mp z; omega), nb_e a1, a2, if_neg (fun z => by have := (nI_leI (by omega) (by omega)).mp z; omega), bd_e (co_op h0 hk ho ha).1, ib_n (by omega) (by omega), nI_clamp (by omega), nI_l hf, nI_l (by omega), show (16 : Int64) = lN 16 from rfl, lN_mul, lN_add]
  · refine ⟨a1, a2, by rw [List.length_set]; exact a3, by rw [List.length_set]; exact a4, fun j v hj => ?_⟩
    rw [gL_sL]
    by_cases z : j = k
    · subst z
      rw [if_pos ⟨rfl, rfl⟩]
      rw [List.getElem?_set_self hl] at hj
      cases hj
      rfl
    · rw [if_neg (fun w => z w.2)]
      rw [List.getElem?_set_ne (fun w => z w.symm)] at hj
      exact a5 j v hj
