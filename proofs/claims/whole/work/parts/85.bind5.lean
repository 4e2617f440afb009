/-! ===== L2: the Binder: members that are not given; the whole ===== -/
theorem fn_self {B : Nat → Int32} {l : List Nat} {i p : Nat} (h : l[i]? = some p) : ∃ j, fn B p l = some j ∧ j ≤ i := by
  cases hf : fn B p l with
  | none => exact absurd (NE.rf p) (fn_none.mp hf p (List.mem_of_getElem? h))
  | some j =>
    refine ⟨j, rfl, ?_⟩
    obtain ⟨q, a, b, c⟩ := fn_some.mp hf
    rcases Nat.lt_or_ge i j with w | w
    · exact absurd (NE.rf p) (c i p w h)
    · exact w
def ngc (B : Nat → Int32) (gc : Nat → Nat → Nat → Int32) (e : Nat) (E : Enm) (c : Nat) (y : Mem) : Prop := y.1 = 5 ∧ ∃ j, fn B y.2.1 (mbp E) = some j ∧ gc e c j = -1
theorem is_given {G : GG} {m : MM} {n pg tp len e c i : Nat} {B : Nat → Int32} {P : List Enm} {C : List Int64} {gc : Nat → Nat → Nat → Int32} {s : BS} {E : Enm} {y : Mem} (hV : CV G m pg tp len B P C gc) (hb : BR m n pg s) (hE : P[e]? = some E) (hc : c < E.2.1.length) (hy : (mbs E.2.2)[i]? = some y) (y5 : y.1 = 5) : ∃ b, M_X0_isGiven G (n + 209) (pg + 4 + 12 * e) (nI c) (nI i) m = some (b, m) ∧ (b = true ↔ ¬ ngc B gc e E c y) := by
  have hP := hV.2.2.2.2.2.1
  have he := get_lt hE
  have hi := get_lt hy
  obtain ⟨b1, b2, b3, b4, b5, b6, b7⟩ := pb_en hP hE
  have hy2 : y ∈ E.2.2 := (List.mem_filter.mp (List.mem_of_getElem? hy)).1
  have hyp := (b7 y hy2).2.2.1
  have hl := cv_le hV he 4 (by omega)
  have hz : G.2.2 (pg + 4 + 12 * e + 1 + 4) = 8 := hl.2
  have hM : MRs m (pg + 4 + 12 * e) E.2.2 := (hV.2.2.2.2.2.2 e E hE).2.1.2.2.2.2.2.2.2.1
  obtain ⟨j, hj, hji⟩ := fn_self (B := B) (l := mbp E) (i := i) (p := y.2.1) (by unfold mbp; rw [List.getElem?_map, hy]; rfl)
  have hjl := fn_lt hj
  simp only [mbp, List.length_map] at hjl
  unfold M_X0_isGiven
  rw [nb_e hb.1, nb_e hV.2.1, nb_e hl.1, hz, ib_n (by omega) (by omega), nI_clamp (by omega), show pg + 4 + 12 * e + 1 + 4 = pg + 4 + 12 * e + 5 by omega, (hM i y hy).1, bd_e (cv_mem hV hE hyp), hj, show oI (some j) = nI j from rfl, bd_e (cv_give hV hE hc hjl)]
  by_cases w : gc e c j = -1
  · rw [if_pos w]
    exact ⟨false, rfl, ⟨fun z => absurd z (by decide), fun z => absurd (show ngc B gc e E c y from ⟨y5, j, hj, w⟩) z⟩⟩
  · rw [if_neg w]
    refine ⟨true, rfl, ⟨fun _ z => ?_, fun _ => rfl⟩⟩
    obtain ⟨-, j', hj', w'⟩ := z
    rw [hj] at hj'
    cases hj'
    exact w w'
theorem nn_12 {G : GG} {n pg tp len e i : Nat} {B : Nat → Int32} {P : List Enm} {C : List Int64} {gc : Nat → Nat → Nat → Int32} {s : BS} {E : Enm} {y : Mem} {k2 : Nat → Nat → Int32 → MM → Option (Unit × MM)} {T : Nat × Nat → Prop} (hN : PN n pg) (htp : tp = n + 201 ∨ tp = n + 214) (hE : P[e]? = some E) (hy : (mbs E.2.2)[i]? = some y) (hk2 : ∀ (m : MM) (F : Nat × Nat) (S : Nat × Nat → Prop), CV G m pg tp len B P C gc → BR m n pg s → FS m (n + 203) F → MF S F → NB G m n pg tp len B P C gc s (k2 (n + 209) (pg + 4 + 12 * e) (nI (i + 1)) m) (fun q => S q ∨ T q)) : ∀ (fu k : Nat) (m : MM) (F : Nat × Nat) (S : Nat × Nat → Prop), CV G m pg tp len B P C gc → BR m n pg s → FS m (n + 203) F → MF S F → E.2.1.length - k < fu → k ≤ E.2.1.length → NB G m n pg tp len B P C gc s (B_X0_noteNotGiven_12 G k2 fu (n + 209) (pg + 4 + 12 * e) (nI i) (nI k) m) (fun q => S q ∨ (∃ c x, k ≤ c ∧ E.2.1[c]? = some x ∧ ngc B gc e E c y ∧ q = (4, x.1)) ∨ T q) := by
  intro fu
  induction fu with
  | zero => intro k m F S _ _ _ _ h; omega
  | succ fu ih =>
    intro k m F S hV hb hF hM hfu hk
    have hP := hV.2.2.2.2.2.1
    have he := get_lt hE
    have hi := get_lt hy
    obtain ⟨b1, b2, b3, b4, b5, b6, b7⟩ := pb_en hP hE
    have hEC := (hV.2.2.2.2.2.2 e E hE).2.1
    rw [B_X0_noteNotGiven_12, hEC.2.1]
    by_cases q : E.2.1.length ≤ k
    · rw [if_pos ((nI_leI (by omega) (by omega)).mpr q), nI_1]
      refine (hk2 m F S hV hb hF hM).cg (fun z => ⟨fun w => w.imp id Or.inr, fun w => ?_⟩)
      rcases w with w | ⟨c, x, a, b, -⟩ | w
      · exact Or.inl w
      · have := get_lt b
        omega
      · exact Or.inr w
    · obtain ⟨x, hx⟩ := lt_get (show k < E.2.1.length by omega)
      have step : ∀ {X : Option (Unit × MM)} {S1 : Nat × Nat → Prop}, NB G m n pg tp len B P C gc s X (fun q => S1 q ∨ (∃ c x, k + 1 ≤ c ∧ E.2.1[c]? = some x ∧ ngc B gc e E c y ∧ q = (4, x.1)) ∨ T q) → (∀ q, S1 q ↔ (S q ∨ (ngc B gc e E k y ∧ q = (4, x.1)))) → NB G m n pg tp len B P C gc s X (fun q => S q ∨ (∃ c x, k ≤ c ∧ E.2.1[c]? = some x ∧ ngc B gc e E c y ∧ q = (4, x.1)) ∨ T q) := fun hX hS => hX.cg (fun z => by
        rw [hS z]
        constructor
        · intro w
          rcases w with (w | w) | ⟨c, x', a, b⟩ | w
          · exact Or.inl w
          · exact Or.inr (Or.inl ⟨k, x, Nat.le_refl _, hx, w⟩)
          · exact Or.inr (Or.inl ⟨c, x', by omega, b⟩)
          · exact Or.inr (Or.inr w)
        · intro w
          rcases w with w | ⟨c, x', a, b, w⟩ | w
          · exact Or.inl (Or.inl w)
          · by_cases ei : c = k
            · rw [ei] at b w
              rw [hx] at b
              cases b
              exact Or.inl (Or.inr w)
            · exact Or.inr (Or.inl ⟨c, x', by omega, b, w⟩)
          · exact Or.inr (Or.inr w))
      rw [if_neg (fun z => q ((nI_leI (by omega) (by omega)).mp z)), bd_e (cv_abs hV hE hy), nI_1]
      by_cases y5 : y.1 = 5
      · rw [if_pos (by rw [decide_eq_true_iff]; exact y5)]
        obtain ⟨b, g1, g2⟩ := is_given hV hb hE (show k < E.2.1.length by omega) hy y5
        rw [bd_e g1]
        by_cases w : b = true
        · rw [if_pos w]
          have := g2.mp w
          exact step (ih (k + 1) m F S hV hb hF hM (by omega) (by omega)) (fun z => by simp [this])
        · have hng : ngc B gc e E k y := Classical.byContradiction (fun z => w (g2.mpr z))
          have hl := cv_le hV he 0 (by omega)
          have hz : G.2.2 (pg + 4 + 12 * e + 1 + 0) = 12 := hl.2
          have hxp := (b6 x (List.mem_of_getElem? hx)).1
          rw [if_neg w, nb_e hb.2.1, nb_e hl.1, hz, ib_n (by omega) (by omega), nI_clamp (by omega), show pg + 4 + 12 * e + 1 + 0 = pg + 4 + 12 * e + 1 by omega, (hEC.2.2.2.2.2.2.1 k x hx).1]
          obtain ⟨m1, e1, e2, e3, e4, e5, e6, e7⟩ := cv_note (k := 4) hN htp hV hb hF hM (by omega) (by omega) hxp
          rw [show (4 : Int32) = nI 4 from rfl, bd_e e1]
          exact step ((ih (k + 1) m1 _ _ e2 e3 e4 e5 (by omega) (by omega)).tr e6) (fun z => by simp [hng])
      · rw [if_neg (by rw [decide_eq_true_iff]; exact y5)]
        exact step (ih (k + 1) m F S hV hb hF hM (by omega) (by omega)) (fun z => by simp [ngc, y5])
/-- a constant that does not give an abstract member, by the class -/
def nnG (B : Nat → Int32) (gc : Nat → Nat → Nat → Int32) (e : Nat) (E : Enm) (q : Nat × Nat) : Prop := ∃ (i : Nat) (y : Mem) (c : Nat) (x : Con), (mbs E.2.2)[i]? = some y ∧ E.2.1[c]? = some x ∧ ngc B gc e E c y ∧ q = (4, x.1)
theorem nn_2 {G : GG} {n pg tp len e : Nat} {B : Nat → Int32} {P : List Enm} {C : List Int64} {gc : Nat → Nat → Nat → Int32} {s : BS} {E : Enm} (hN : PN n pg) (htp : tp = n + 201 ∨ tp = n + 214) (hE : P[e]? = some E) : ∀ (fu k : Nat) (m : MM) (F : Nat × Nat) (S : Nat × Nat → Prop), CV G m pg tp len B P C gc → BR m n pg s → FS m (n + 203) F → MF S F → (mbs E.2.2).length - k < fu → k ≤ (mbs E.2.2).length → NB G m n pg tp len B P C gc s (B_X0_noteNotGiven_2 G fu (n + 209) (pg + 4 + 12 * e) (nI k) m) (fun q => S q ∨ ∃ i y c x, k ≤ i ∧ (mbs E.2.2)[i]? = some y ∧ E.2.1[c]? = some x ∧ ngc B gc e E c y ∧ q = (4, x.1)) := by
  intro fu
  induction fu with
  | zero => intro k m F S _ _ _ _ h; omega
  | succ fu ih =>
    intro k m F S hV hb hF hM hfu hk
    have hP := hV.2.2.2.2.2.1
    obtain ⟨b1, b2, b3, b4, b5, b6, b7⟩ := pb_en hP hE
    have hEC := (hV.2.2.2.2.2.2 e E hE).2.1
    rw [B_X0_noteNotGiven_2, hEC.2.2.1]
    by_cases q : (mbs E.2.2).length ≤ k
    · rw [if_pos ((nI_leI (by omega) (by omega)).mpr q)]
      refine ⟨m, F, rfl, hV, hb, hF, hM.cg (fun z => ⟨Or.inl, fun w => ?_⟩), OB.rf⟩
      rcases w with w | ⟨i, y, c, x, a, b, -⟩
      · exact w
      · have := get_lt b
        omega
    · obtain ⟨y, hy⟩ := lt_get (show k < (mbs E.2.2).length by omega)
      rw [if_neg (fun z => q ((nI_leI (by omega) (by omega)).mp z))]
      have := nn_12 hN htp hE hy (k2 := B_X0_noteNotGiven_2 G fu) (T := fun q => ∃ i y c x, k + 1 ≤ i ∧ (mbs E.2.2)[i]? = some y ∧ E.2.1[c]? = some x ∧ ngc B gc e E c y ∧ q = (4, x.1)) (fun mz Fz Sz v1 v2 v3 v4 => ih (k + 1) mz Fz Sz v1 v2 v3 v4 (by omega) (by omega)) FU 0 m F S hV hb hF hM (by unfold FU; omega) (by omega)
      rw [nI_0] at this
      refine this.cg (fun z => ?_)
      constructor
      · intro w
        rcases w with w | ⟨c, x, a, b⟩ | ⟨i, y', c, x, a, b⟩
        · exact Or.inl w
        · exact Or.inr ⟨k, y, c, x, Nat.le_refl _, hy, b⟩
        · exact Or.inr ⟨i, y', c, x, by omega, b⟩
      · intro w
        rcases w with w | ⟨i, y', c, x, a, b, w⟩
        · exact Or.inl w
        · by_cases ei : i = k
          · rw [ei, hy] at b
            cases b
            exact Or.inr (Or.inl ⟨c, x, by omega, w⟩)
          · exact Or.inr (Or.inr ⟨i, y', c, x, by omega, b, w⟩)
theorem nn_all {G : GG} {m : MM} {n pg tp len e : Nat} {B : Nat → Int32} {P : List Enm} {C : List Int64} {gc : Nat → Nat → Nat → Int32} {s : BS} {E : Enm} {F : Nat × Nat} {S : Nat × Nat → Prop} (hN : PN n pg) (htp : tp = n + 201 ∨ tp = n + 214) (hE : P[e]? = some E) (hV : CV G m pg tp len B P C gc) (hb : BR m n pg s) (hF : FS m (n + 203) F) (hM : MF S F) : NB G m n pg tp len B P C gc s (M_X0_noteNotGiven G (n + 209) (pg + 4 + 12 * e) m) (fun q => S q ∨ nnG B gc e E q) := by
  obtain ⟨b1, b2, b3, b4, b5, b6, b7⟩ := pb_en hV.2.2.2.2.2.1 hE
  have := nn_2 hN htp hE (s := s) FU 0 m F S hV hb hF hM (by unfold FU; omega) (by omega)
  unfold M_X0_noteNotGiven
  rw [nI_0] at this
  refine this.cg (fun z => ?_)
  simp only [nnG, Nat.zero_le, true_and]
/-- what the class notes of its enumerations -/
def cE (B : Nat → Int32) (gc : Nat → Nat → Nat → Int32) (P : List Enm) (k : Nat) (q : Nat × Nat) : Prop := ∃ (e : Nat) (E : Enm), k ≤ e ∧ P[e]? = some E ∧ (tws B (nmL E.2.1 E.2.2) 0 q ∨ nnG B gc e E q)
theorem bind_69 {G : GG} {n pg tp len : Nat} {B : Nat → Int32} {P : List Enm} {C : List Int64} {gc : Nat → Nat → Nat → Int32} {s : BS} (hN : PN n pg) (htp : tp = n + 201 ∨ tp = n + 214) : ∀ (fu k : Nat) (m : MM) (F : Nat × Nat) (S : Nat × Nat → Prop), CV G m pg tp len B P C gc → BR m n pg s → FS m (n + 203) F → MF S F → P.length - k < fu → k ≤ P.length → NB G m n pg tp len B P C gc s (B_X0_bind_69 G fu (n + 209) (nI k) m) (fun q => S q ∨ cE B gc P k q) := by
  intro fu
  induction fu with
  | zero => intro k m F S _ _ _ _ h; omega
  | succ fu ih =>
    intro k m F S hV hb hF hM hfu hk
    have hP := hV.2.2.2.2.2.1
    have hP8 := hP.1
    rw [B_X0_bind_69, nb_e hb.1, hV.2.2.2.2.1]
    by_cases q : P.length ≤ k
    · rw [if_pos ((nI_leI (by omega) (by omega)).mpr q)]
      refine ⟨m, F, rfl, hV, hb, hF, hM.cg (fun z => ⟨Or.inl, fun w => ?_⟩), OB.rf⟩
      rcases w with w | ⟨e, E, a, b, -⟩
      · exact w
      · have := get_lt b
        omega
    · obtain ⟨E, hE⟩ := lt_get (show k < P.length by omega)
      have hEC := (hV.2.2.2.2.2.2 k E hE).2.1
      rw [if_neg (fun z => q ((nI_leI (by omega) (by omega)).mp z)), bd_e (cv_en hV (by omega)), el_e rfl, nb_e (cv_le hV (by omega) 10 (by omega)).1, hEC.1, nI_1, show pg + 4 + 12 * k + 1 + 10 = pg + 4 + 12 * k + 11 by omega]
      obtain ⟨m1, F1, a1, a2, a3, a4, a5, a6⟩ := nt_names hN htp hE hV hb hF hM
      rw [bd_e a1]
      obtain ⟨m2, F2, c1, c2, c3, c4, c5, c6⟩ := nn_all hN htp hE a2 a3 a4 a5
      rw [bd_e c1]
      refine ((ih (k + 1) m2 F2 _ c2 c3 c4 c5 (by omega) (by omega)).tr (a6.tr c6)).cg (fun z => ?_)
      constructor
      · intro w
        rcases w with ((w | w) | w) | ⟨e, E', a, b⟩
        · exact Or.inl w
        · exact Or.inr ⟨k, E, Nat.le_refl _, hE, Or.inl w⟩
        · exact Or.inr ⟨k, E, Nat.le_refl _, hE, Or.inr w⟩
        · exact Or.inr ⟨e, E', by omega, b⟩
      · intro w
        rcases w with w | ⟨e, E', a, b, w⟩
        · exact Or.inl (Or.inl (Or.inl w))
        · by_cases ei : e = k
          · rw [ei] at b w
            rw [hE] at b
            cases b
            rcases w with w | w
            · exact Or.inl (Or.inl (Or.inr w))
            · exact Or.inl (Or.inr w)
          · exact Or.inr ⟨e, E', by omega, b, w⟩
/-- the code while it is bound -/
def CK (B : Nat → Int32) (P : List Enm) (K : List Ko) (k : Nat) : List Int64 := (K.take k).map (bcd B P) ++ (K.drop k).map encK
theorem ck_get {B : Nat → Int32} {P : List Enm} {K : List Ko} {k : Nat} {q : Ko} (h : K[k]? = some q) : (CK B P K k)[k]? = some (encK q) ∧ (CK B P K k).set k (bcd B P q) = CK B P K (k + 1) := by
  have hk := get_lt h
  have hl : ((K.take k).map (bcd B P)).length = k := by rw [List.length_map, List.length_take]; omega
  have ed : K.drop k = q :: K.drop (k + 1) := drop_get h
  have et : K.take (k + 1) = K.take k ++ [q] := by
    rw [List.take_add_one, h]
    rfl
  unfold CK
  constructor
  · rw [List.getElem?_append_right (by omega), hl, Nat.sub_self, ed]
    rfl
  · rw [List.set_append_right _ _ (by omega), hl, Nat.sub_self, ed, et, List.map_append, List.append_assoc]
    rfl
/-- all that the class notes -/
def cN (B : Nat → Int32) (gc : Nat → Nat → Nat → Int32) (K : List Ko) (P : List Enm) (k : Nat) (x : Nat × Nat) : Prop := (∃ j q, k ≤ j ∧ K[j]? = some q ∧ cO B K P j q x) ∨ tws B (enp P) 0 x ∨ cE B gc P 0 x
theorem bind_27 {G : GG} {n pg tp len : Nat} {B : Nat → Int32} {P : List Enm} {K : List Ko} {sf : BS} (hN : PN n pg) (htp : tp = n + 201 ∨ tp = n + 214) (hw : bwk s0 K = some sf) (hKB : KB P.length K) (hGC : GC K P) (hKl : K.length ≤ 2000) (h12 : T12 P.length K) : ∀ (fu k : Nat) (m : MM) (F : Nat × Nat) (S : Nat × Nat → Prop) (s : BS) (gc : Nat → Nat → Nat → Int32), CV G m pg tp len B P (CK B P K k) gc → BR m n pg s → FS m (n + 203) F → MF S F → GP B P (gvi 0 (K.take k)) gc → bwk s0 (K.take k) = some s → K.length - k < fu → k ≤ K.length → ∃ m1 F1 gc1, B_X0_bind_27 G fu (n + 209) (nI k) m = some ((), m1) ∧ CV G m1 pg tp len B P (K.map (bcd B P)) gc1 ∧ GP B P (gvi 0 K) gc1 ∧ FS m1 (n + 203) F1 ∧ MF (fun x => S x ∨ cN B gc1 K P k x) F1 ∧ OB m m1 n pg := by
  intro fu
  induction fu with
  | zero => intro k m F S s gc _ _ _ _ _ _ h; omega
  | succ fu ih =>
    intro k m F S s gc hV hb hF hM hG hbw hfu hk
    have hP8 := hV.2.2.2.2.2.1.1
    have hcl : gI m pg 4 = nI K.length := by
      rw [hV.2.2.2.1.2.2.1]
      congr 1
      unfold CK
      rw [List.length_append, List.length_map, List.length_map, List.length_take, List.length_drop]
      omega
    rw [B_X0_bind_27, nb_e hb.1, hcl]
    by_cases q : K.length ≤ k
    · have ek : k = K.length := by omega
      have eC : CK B P K k = K.map (bcd B P) := by
        unfold CK
        rw [ek, List.take_length, List.drop_length]
        simp
      have eT : K.take k = K := by rw [ek, List.take_length]
      rw [eC] at hV
      rw [eT] at hG
      rw [if_pos ((nI_leI (by omega) (by omega)).mpr q), nb_e hV.1.2.1, hV.2.2.2.2.1]
      obtain ⟨m1, F1, a1, a2, a3, a4, a5, a6⟩ := nt_enums hN htp hV hb hF hM
      rw [bd_e a1]
      obtain ⟨m2, F2, c1, c2, c3, c4, c5, c6⟩ := bind_69 hN htp FU 0 m1 F1 _ a2 a3 a4 a5 (by unfold FU; omega) (by omega)
      rw [nI_0] at c1
      refine ⟨m2, F2, gc, c1, c2, hG, c4, c5.cg (fun z => ?_), a6.tr c6⟩
      constructor
      · intro w
        rcases w with (w | w) | w
        · exact Or.inl w
        · exact Or.inr (Or.inr (Or.inl w))
        · exact Or.inr (Or.inr (Or.inr w))
      · intro w
        rcases w with w | ⟨j, q', a, b, -⟩ | w | w
        · exact Or.inl (Or.inl w)
        · have := get_lt b
          omega
        · exact Or.inl (Or.inr w)
        · exact Or.inr w
    · obtain ⟨x, hx⟩ := lt_get (show k < K.length by omega)
      obtain ⟨g1, g2⟩ := ck_get (B := B) (P := P) hx
      have et : K.take (k + 1) = K.take k ++ [x] := by
        rw [List.take_add_one, hx]
        rfl
      have hs : ∃ s1, bw1 s x = some s1 := by
        have eK : K = K.take k ++ x :: K.drop (k + 1) := by
          rw [← drop_get hx, List.take_append_drop]
        rw [eK, bwk_app, hbw] at hw
        change (bw1 s x).bind _ = some sf at hw
        cases hz : bw1 s x with
        | none => rw [hz] at hw; simp at hw
        | some s1 => exact ⟨s1, rfl⟩
      obtain ⟨s1, hs1⟩ := hs
      have hbw1 : bwk s0 (K.take (k + 1)) = some s1 := by
        rw [et, bwk_app, hbw]
        show (bw1 s x).bind _ = some s1
        rw [hs1]
        rfl
      rw [if_neg (fun z => q ((nI_leI (by omega) (by omega)).mp z)), nI_1]
      obtain ⟨m1, F1, gc1, a1, a2, a3, a4, a5, a6, a7⟩ := bind_op hN htp hV hb hF hM hG hx g1 hs1 hKB hGC hKl (h12 x (List.mem_of_getElem? hx))
      rw [g2] at a2
      rw [bd_e a1]
      obtain ⟨m2, F2, gc2, c1, c2, c3, c4, c5, c6⟩ := ih (k + 1) m1 F1 _ s1 gc1 a2 a3 a4 a5 a6 hbw1 (by omega) (by omega)
      refine ⟨m2, F2, gc2, c1, c2, c3, c4, c5.cg (fun z => ?_), a7.tr c6⟩
      constructor
      · intro w
        rcases w with (w | w) | ⟨j, q', a, b⟩ | w
        · exact Or.inl w
        · exact Or.inr (Or.inl ⟨k, x, Nat.le_refl _, hx, w⟩)
        · exact Or.inr (Or.inl ⟨j, q', by omega, b⟩)
        · exact Or.inr (Or.inr w)
      · intro w
        rcases w with w | ⟨j, q', a, b, w⟩ | w
        · exact Or.inl (Or.inl w)
        · by_cases ei : j = k
          · rw [ei] at b w
            rw [hx] at b
            cases b
            exact Or.inl (Or.inr w)
          · exact Or.inr (Or.inl ⟨j, q', by omega, b, w⟩)
        · exact Or.inr (Or.inr w)
