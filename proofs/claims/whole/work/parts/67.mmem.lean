/-! ===== L2: the reference reads members ===== -/
theorem RE.wh {G : GG} {m : MM} {d tt len e c so : Nat} {B : Nat → Int32} {A0 R : List Ko} {o : Op} {l : List Tok} {F : Option Nat} (h : RE G m d tt len B e (A0 ++ kox e 0 c o :: R) [] l F) : RE G (sI m (d + 39) (2100 * tt + A0.length) (nI (whr so))) d tt len B e (A0 ++ kox e so c o :: R) [] l F ∧ OE m (sI m (d + 39) (2100 * tt + A0.length) (nI (whr so))) d tt := by
  obtain ⟨g1, g2, g3, g4, g5, g6, g7, g8, g9, g10, g11⟩ := h
  have hlen : A0.length < 2100 := by simp only [List.length_append, List.length_cons] at g10; omega
  have oe : OE m (sI m (d + 39) (2100 * tt + A0.length) (nI (whr so))) d tt := OE.act (by omega) (by omega) (by omega) hlen
  have gd : ∀ j, gI (sI m (d + 39) (2100 * tt + A0.length) (nI (whr so))) d j = gI m d j := fun j => gI_sI_ne (Or.inl (by omega))
  refine ⟨⟨g1.oh oe, g2.oh oe, g3, g4.kept (fun j _ _ => gd j), ⟨?_, fun hF j q hq => ?_⟩, by rw [gd]; exact g6, trivial, by rw [gd]; exact g8, g9.kept (fun j _ _ => gd j), by simp only [List.length_append, List.length_cons] at g10 ⊢; exact g10, g11⟩, oe⟩
  · rw [gI_sI_ne (Or.inl (by omega)), g5.1]
    simp
  · by_cases hj : j = A0.length
    · subst hj
      have e1 : (A0 ++ kox e so c o :: R)[A0.length]? = some (kox e so c o) := by simp
      have e2 : (A0 ++ kox e 0 c o :: R)[A0.length]? = some (kox e 0 c o) := by simp
      cases e1.symm.trans hq
      obtain ⟨a1, a2, a3, a4, a5, a6, a7⟩ := g5.2 hF A0.length _ e2
      have ne : ∀ i, i ≠ 39 → gI (sI m (d + 39) (2100 * tt + A0.length) (nI (whr so))) (d + i) (2100 * tt + A0.length) = gI m (d + i) (2100 * tt + A0.length) := fun i hi => gI_sI_ne (Or.inl (by omega))
      exact ⟨by rw [ne _ (by omega)]; exact a1, fun z => by rw [ne _ (by omega)]; exact a2 z, fun z y => by rw [ne _ (by omega)]; exact a3 z y, fun z => by rw [ne _ (by omega)]; exact a4 z, fun z => ⟨by rw [ne _ (by omega)]; exact (a5 z).1, by rw [ne _ (by omega)]; exact (a5 z).2⟩, gI_sI_eq, by rw [ne _ (by omega)]; exact a7⟩
    · have e2 : (A0 ++ kox e 0 c o :: R)[j]? = some q := by
        rw [← hq]
        rcases Nat.lt_or_ge j A0.length with z | z
        · rw [List.getElem?_append_left z, List.getElem?_append_left z]
        · rw [List.getElem?_append_right z, List.getElem?_append_right z, show j - A0.length = (j - A0.length - 1) + 1 by omega, List.getElem?_cons_succ, List.getElem?_cons_succ]
      exact (g5.2 hF j q e2).kept (fun i i1 i2 i3 => gI_sI_ne (Or.inr (by omega)))
/-- a write of the same number -/
theorem RE.same {G : GG} {m : MM} {d tt len e k : Nat} {B : Nat → Int32} {A : List Ko} {l : List Tok} {F : Option Nat} {v : Int32} (h : RE G m d tt len B e A [] l F) (hv : ∀ q, F = none → A[k]? = some q → v = gI m (d + 40) (2100 * tt + k)) (hk : k < A.length) : RE G (sI m (d + 40) (2100 * tt + k) v) d tt len B e A [] l F ∧ OE m (sI m (d + 40) (2100 * tt + k) v) d tt := by
  obtain ⟨g1, g2, g3, g4, g5, g6, g7, g8, g9, g10, g11⟩ := h
  have oe : OE m (sI m (d + 40) (2100 * tt + k) v) d tt := OE.act (by omega) (by omega) (by omega) (by omega)
  have gd : ∀ j, gI (sI m (d + 40) (2100 * tt + k) v) d j = gI m d j := fun j => gI_sI_ne (Or.inl (by omega))
  refine ⟨⟨g1.oh oe, g2.oh oe, g3, g4.kept (fun j _ _ => gd j), ⟨by rw [gI_sI_ne (Or.inl (by omega))]; exact g5.1, fun hF j q hq => ?_⟩, by rw [gd]; exact g6, trivial, by rw [gd]; exact g8, g9.kept (fun j _ _ => gd j), g10, g11⟩, oe⟩
  refine (g5.2 hF j q hq).kept (fun i i1 i2 i3 => ?_)
  by_cases hj : i = 40 ∧ j = k
  · obtain ⟨rfl, rfl⟩ := hj
    rw [gI_sI_eq]
    exact hv q hF hq
  · exact gI_sI_ne (by omega)
theorem mm_where2 {G : GG} {d tt len e c : Nat} {B : Nat → Int32} {l : List Tok} : ∀ (ops : List Op) (fu : Nat) (m : MM) (A0 : List Ko), RE G m d tt len B e (A0 ++ ops.map (kox e 0 c)) [] l none → ops.length < fu → ∃ m1, B_X11_readMember_484 G fu d (nI A0.length) m = (bd (M_X11_need G d 59 m1) fun _ m_3 => some ((), m_3)) ∧ RE G m1 d tt len B e (A0 ++ ops.map (kox e 1 c)) [] l none ∧ OE m m1 d tt := by
  intro ops
  induction ops with
  | nil =>
    intro fu m A0 h hf
    cases fu with
    | zero => exact absurd hf (by omega)
    | succ fu =>
      have ht := h.2.1.2.1
      have hb := h.2.2.2.2.2.2.2.2.2.1
      rw [B_X11_readMember_484, nb_e (mr_33 h.1), mz_33 h.1, h.2.1.1, ib_n (by omega) (by omega), nI_clamp (by omega), h.2.2.2.2.1.1]
      simp only [List.map_nil, List.append_nil] at hb ⊢
      rw [if_pos ((nI_leI (by omega) (by omega)).mpr (Nat.le_refl _))]
      exact ⟨m, rfl, by simpa using h, OE.rf⟩
  | cons o ops ih =>
    intro fu m A0 h hf
    cases fu with
    | zero => exact absurd hf (by omega)
    | succ fu =>
      have ht := h.2.1.2.1
      have hb := h.2.2.2.2.2.2.2.2.2.1
      simp only [List.length_append, List.length_map, List.length_cons] at hb hf
      rw [B_X11_readMember_484, nb_e (mr_33 h.1), mz_33 h.1, h.2.1.1, ib_n (by omega) (by omega), nI_clamp (by omega), h.2.2.2.2.1.1, if_neg (fun z => absurd ((nI_leI (by simp only [List.length_append, List.length_map, List.length_cons]; omega) (by omega)).mp z) (by simp only [List.length_append, List.length_map, List.length_cons]; omega)), nb_e (mr_50 h.1), mz_50 h.1, show (2100 : Int32) = nI 2100 from rfl, pk_mul, nI_add, ib_n (by omega) (by omega), nI_clamp (by omega), nI_1]
      obtain ⟨w1, w2⟩ := RE.wh (so := 1) (show RE G m d tt len B e (A0 ++ kox e 0 c o :: ops.map (kox e 0 c)) [] l none from h)
      have w1' : RE G (sI m (d + 39) (2100 * tt + A0.length) (nI (whr 1))) d tt len B e ((A0 ++ [kox e 1 c o]) ++ ops.map (kox e 0 c)) [] l none := by simpa using w1
      obtain ⟨m1, e1, e2, e3⟩ := ih fu _ _ w1' (by omega)
      rw [List.length_append, List.length_singleton] at e1
      exact ⟨m1, e1, by simpa using e2, w2.tr e3⟩
theorem mm_where1 {G : GG} {d tt len e c : Nat} {B : Nat → Int32} {l : List Tok} : ∀ (ops : List Op) (fu : Nat) (m : MM) (A0 : List Ko), RE G m d tt len B e (A0 ++ ops.map (kox e 0 c)) [] l none → ops.length < fu → ∃ m1, B_X11_readMember_108 G fu d (nI A0.length) m = (bd (M_X11_need G d 59 m1) fun _ m_3 => some ((), m_3)) ∧ RE G m1 d tt len B e (A0 ++ ops.map (kox e 2 c)) [] l none ∧ OE m m1 d tt := by
  intro ops
  induction ops with
  | nil =>
    intro fu m A0 h hf
    cases fu with
    | zero => exact absurd hf (by omega)
    | succ fu =>
      have ht := h.2.1.2.1
      have hb := h.2.2.2.2.2.2.2.2.2.1
      rw [B_X11_readMember_108, nb_e (mr_33 h.1), mz_33 h.1, h.2.1.1, ib_n (by omega) (by omega), nI_clamp (by omega), h.2.2.2.2.1.1]
      simp only [List.map_nil, List.append_nil] at hb ⊢
      rw [if_pos ((nI_leI (by omega) (by omega)).mpr (Nat.le_refl _))]
      exact ⟨m, rfl, by simpa using h, OE.rf⟩
  | cons o ops ih =>
    intro fu m A0 h hf
    cases fu with
    | zero => exact absurd hf (by omega)
    | succ fu =>
      have ht := h.2.1.2.1
      have hb := h.2.2.2.2.2.2.2.2.2.1
      simp only [List.length_append, List.length_map, List.length_cons] at hb hf
      rw [B_X11_readMember_108, nb_e (mr_33 h.1), mz_33 h.1, h.2.1.1, ib_n (by omega) (by omega), nI_clamp (by omega), h.2.2.2.2.1.1, if_neg (fun z => absurd ((nI_leI (by simp only [List.length_append, List.length_map, List.length_cons]; omega) (by omega)).mp z) (by simp only [List.length_append, List.length_map, List.length_cons]; omega)), nb_e (mr_50 h.1), mz_50 h.1, show (2100 : Int32) = nI 2100 from rfl, pk_mul, nI_add, ib_n (by omega) (by omega), nI_clamp (by omega), gR_sI, nb_e (mr_51 h.1), mz_51 h.1]
      have gg : ∀ (mz : MM) (o k j : Nat) (v : Int32), gI (sI mz (d + (o + 1)) k v) d j = gI mz d j := fun mz o k j v => gI_sI_ne (Or.inl (by omega))
      simp only [gg _ 38, h.2.1.1, pk_mul, nI_add, h.2.2.2.2.2.2.2.1]
      rw [ib_n (by omega) (by omega), nI_clamp (by omega), nI_1]
      obtain ⟨w1, w2⟩ := RE.wh (so := 2) (show RE G m d tt len B e (A0 ++ kox e 0 c o :: ops.map (kox e 0 c)) [] l none from h)
      obtain ⟨v1, v2⟩ := w1.same (k := A0.length) (v := nI (8 * tt + e)) (fun q _ hq => by
        have e1 : (A0 ++ kox e 2 c o :: ops.map (kox e 0 c))[A0.length]? = some (kox e 2 c o) := by simp
        exact ((w1.2.2.2.2.1.2 rfl A0.length _ e1).2.2.2.2.2.2).symm) (by simp)
      have w1' : RE G (sI (sI m (d + 39) (2100 * tt + A0.length) (nI (whr 2))) (d + 40) (2100 * tt + A0.length) (nI (8 * tt + e))) d tt len B e ((A0 ++ [kox e 2 c o]) ++ ops.map (kox e 0 c)) [] l none := by simpa using v1
      obtain ⟨m1, e1, e2, e3⟩ := ih fu _ _ w1' (by omega)
      rw [List.length_append, List.length_singleton] at e1
      exact ⟨m1, e1, by simpa using e2, (w2.tr v2).tr e3⟩
/-- the same loops behind a fault -/
theorem RE.wb {G : GG} {m : MM} {d tt len e p o k : Nat} {B : Nat → Int32} {A : List Ko} {l : List Tok} {v : Int32} (h : RE G m d tt len B e A [] l (some p)) (ho : 31 ≤ o ∧ o ≤ 40 ∧ o ≠ 38) (hk : k < 2100) : RE G (sI m (d + o) (2100 * tt + k) v) d tt len B e A [] l (some p) ∧ OE m (sI m (d + o) (2100 * tt + k) v) d tt := by
  obtain ⟨g1, g2, g3, g4, g5, g6, g7, g8, g9, g10, g11⟩ := h
  have oe : OE m (sI m (d + o) (2100 * tt + k) v) d tt := OE.act (by omega) (by omega) (by omega) hk
  have gd : ∀ j, gI (sI m (d + o) (2100 * tt + k) v) d j = gI m d j := fun j => gI_sI_ne (Or.inl (by omega))
  exact ⟨⟨g1.oh oe, g2.oh oe, g3, g4.kept (fun j _ _ => gd j), ⟨by rw [gI_sI_ne (Or.inl (by omega))]; exact g5.1, fun z => by cases z⟩, by rw [gd]; exact g6, trivial, by rw [gd]; exact g8, g9.kept (fun j _ _ => gd j), g10, g11⟩, oe⟩
theorem mm_where2B {G : GG} {d tt len e p : Nat} {B : Nat → Int32} {A : List Ko} {l : List Tok} : ∀ (fu i : Nat) (m : MM), RE G m d tt len B e A [] l (some p) → A.length - i < fu → i < 3000 → ∃ m1, B_X11_readMember_484 G fu d (nI i) m = some ((), m1) ∧ RE G m1 d tt len B e A [] l (some p) ∧ OE m m1 d tt := by
  intro fu
  induction fu with
  | zero => intro i m _ hf; exact absurd hf (by omega)
  | succ fu ih =>
    intro i m h hf hi
    have ht := h.2.1.2.1
    have hb := h.2.2.2.2.2.2.2.2.2.1
    rw [B_X11_readMember_484, nb_e (mr_33 h.1), mz_33 h.1, h.2.1.1, ib_n (by omega) (by omega), nI_clamp (by omega), h.2.2.2.2.1.1]
    by_cases q : A.length ≤ i
    · rw [if_pos ((nI_leI (by omega) (by omega)).mpr q), bd_e h.needB]
      exact ⟨m, rfl, h, OE.rf⟩
    · rw [if_neg (fun z => q ((nI_leI (by omega) (by omega)).mp z)), nb_e (mr_50 h.1), mz_50 h.1, show (2100 : Int32) = nI 2100 from rfl, pk_mul, nI_add, ib_n (by omega) (by omega), nI_clamp (by omega), nI_1]
      obtain ⟨w1, w2⟩ := h.wb (o := 39) (k := i) (v := 2) (by omega) (by omega)
      obtain ⟨m1, e1, e2, e3⟩ := ih (i + 1) _ w1 (by omega) (by omega)
      exact ⟨m1, e1, e2, w2.tr e3⟩
theorem mm_where1B {G : GG} {d tt len e p : Nat} {B : Nat → Int32} {A : List Ko} {l : List Tok} : ∀ (fu i : Nat) (m : MM), RE G m d tt len B e A [] l (some p) → A.length - i < fu → i < 3000 → ∃ m1, B_X11_readMember_108 G fu d (nI i) m = some ((), m1) ∧ RE G m1 d tt len B e A [] l (some p) ∧ OE m m1 d tt := by
  intro fu
  induction fu with
  | zero => intro i m _ hf; exact absurd hf (by omega)
  | succ fu ih =>
    intro i m h hf hi
    have ht := h.2.1.2.1
    have hb := h.2.2.2.2.2.2.2.2.2.1
    rw [B_X11_readMember_108, nb_e (mr_33 h.1), mz_33 h.1, h.2.1.1, ib_n (by omega) (by omega), nI_clamp (by omega), h.2.2.2.2.1.1]
    by_cases q : A.length ≤ i
    · rw [if_pos ((nI_leI (by omega) (by omega)).mpr q), bd_e h.needB]
      exact ⟨m, rfl, h, OE.rf⟩
    · rw [if_neg (fun z => q ((nI_leI (by omega) (by omega)).mp z)), nb_e (mr_50 h.1), mz_50 h.1, show (2100 : Int32) = nI 2100 from rfl, pk_mul, nI_add, ib_n (by omega) (by omega), nI_clamp (by omega), gR_sI, nb_e (mr_51 h.1), mz_51 h.1]
      have gg : ∀ (mz : MM) (o k j : Nat) (v : Int32), gI (sI mz (d + (o + 1)) k v) d j = gI mz d j := fun mz o k j v => gI_sI_ne (Or.inl (by omega))
      simp only [gg _ 38, h.2.1.1, pk_mul, nI_add]
      rw [ib_n (by omega) (by omega), nI_clamp (by omega), nI_1]
      obtain ⟨w1, w2⟩ := h.wb (o := 39) (k := i) (v := 1) (by omega) (by omega)
      obtain ⟨x1, x2⟩ := w1.wb (o := 40) (k := i) (v := gI m d 48) (by omega) (by omega)
      obtain ⟨m1, e1, e2, e3⟩ := ih (i + 1) _ x1 (by omega) (by omega)
      exact ⟨m1, e1, e2, (w2.tr x2).tr e3⟩
/-- '=' and an exp -/
theorem mx_eq {G : GG} {m : MM} {d tt len e c : Nat} {B : Nat → Int32} {A0 : List Ko} {l : List Tok} (h : RE G m d tt len B e A0 [] l none) : ∃ m1 m2, M_X11_need G d (nI 61) m = some ((), m1) ∧ M_X11_readExp G d m1 = some ((), m2) ∧ OE m m1 d tt ∧ OE m1 m2 d tt ∧ LM G m1 d ∧ gI m1 d 4 = nI tt ∧ gI m1 (d + 30) tt = nI A0.length ∧ ((hd l = 61 ∧ (pX l.tail).1 = true ∧ RE G m2 d tt len B e (A0 ++ (pX l.tail).2.1.map (kox e 0 c)) [] (pX l.tail).2.2 none ∧ (∀ o ∈ (pX l.tail).2.1, opB o) ∧ (pX l.tail).2.2.length + 2 ≤ l.length) ∨ ∃ A l1 r, RE G m2 d tt len B e A [] l1 (some (plc r)) ∧ ∀ en so c K', pEx en so c K' l = (none, r)) := by
  obtain ⟨n1, n2⟩ := h.need (w := 61) (by omega)
  by_cases q : hd l = 61
  · obtain ⟨m1, e1, e2, e3, e4, e5⟩ := n1 q
    rw [List.length_nil] at e4
    obtain ⟨m2, i1, i2, i3, i4⟩ := mm_exp (c := c) e2 (by omega)
    refine ⟨m1, m2, e1, i1, e3, i2, e2.1, e2.2.1.1, e2.2.2.2.2.1.1, ?_⟩
    cases hb : (pX l.tail).1 with
    | true =>
      refine Or.inl ⟨q, rfl, i3 hb, ?_, ?_⟩
      · obtain ⟨t, rs, z1, -, -, -, -, z6⟩ := h.tok
        exact pX_ok (fun x hx => z6 x (List.mem_of_mem_tail hx))
      · have := pX_len2 l.tail hb
        omega
    | false =>
      obtain ⟨A1, l1, r1⟩ := i4 hb
      refine Or.inr ⟨A1, l1, _, r1, fun en so c K' => ?_⟩
      unfold pEx
      rw [if_pos q, hb, if_neg ff]
  · obtain ⟨m1, e1, e2, e3⟩ := n2 q
    obtain ⟨m2, i1, i2, i3⟩ := mm_expB e2
    refine ⟨m1, m2, e1, i1, e3, i2, e2.1, e2.2.1.1, e2.2.2.2.2.1.1, Or.inr ⟨_, _, l, i3, fun en so c K' => ?_⟩⟩
    unfold pEx
    rw [if_neg q]
