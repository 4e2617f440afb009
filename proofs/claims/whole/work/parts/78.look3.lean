/-! ===== L2: the reference looks at an enumeration ===== -/
/-- an abstract member that the constant c does not give -/
def ng (B : Nat → Int32) (K : List Ko) (e c : Nat) (y : Mem) : Prop := y.1 = 5 ∧ gvF B e c y.2.1 (gvi 0 K) 0 = none
theorem look_180 {G : GG} {d tt len e c : Nat} {B : Nat → Int32} {K : List Ko} {P : List Enm} {E : Enm} {x : Con} {k143 : Nat → Int32 → Int32 → MM → Option (Unit × MM)} {T : Nat × Nat → Prop} (hE : P[e]? = some E) (hx : E.2.1[c]? = some x) (hk : ∀ (m : MM) (F : Nat × Nat) (S : Nat × Nat → Prop), VQ G m d tt len B K P → WF m d F → MF S F → LR m d [] (k143 d (nI (8 * tt + e)) (nI (c + 1)) m) (fun q => S q ∨ T q)) : ∀ (fu k : Nat) (m : MM) (F : Nat × Nat) (S : Nat × Nat → Prop), VQ G m d tt len B K P → WF m d F → MF S F → (mbs E.2.2).length - k < fu → k ≤ (mbs E.2.2).length → LR m d [] (B_X11_lookAtEnum_180 G k143 fu d (nI (8 * tt + e)) (nI c) (nI (12 * (8 * tt + e) + c)) (nI k) m) (fun q => S q ∨ (∃ i y, k ≤ i ∧ (mbs E.2.2)[i]? = some y ∧ ng B K e c y ∧ q = (4, x.1)) ∨ T q) := by
  intro fu
  induction fu with
  | zero => intro k m F S _ _ _ h; omega
  | succ fu ih =>
    intro k m F S hV hw hm hf hk2
    have hV0 := hV
    obtain ⟨h1, h2, h3, h4, h5, -⟩ := hV
    obtain ⟨b1, b2, b3, b4, b5, b6, b7⟩ := pb_en h5 hE
    obtain ⟨q1, q2, q3, q4, q5, q6⟩ := h3.2 e E hE
    have ht := h2.2.1
    have hc := get_lt hx
    rw [B_X11_lookAtEnum_180, nb_e (mr_10 h1), mz_10 h1, ib_n (by omega) (by omega), nI_clamp (by omega), q4.1]
    by_cases q : (mbs E.2.2).length ≤ k
    · rw [if_pos ((nI_leI (by omega) (by omega)).mpr q), nI_1]
      refine (hk m F S hV0 hw hm).cg (fun z => ⟨fun w => w.imp id Or.inr, fun w => ?_⟩)
      rcases w with w | ⟨i, y, a, b, -⟩ | w
      · exact Or.inl w
      · have := get_lt b
        omega
      · exact Or.inr w
    · obtain ⟨y, hy⟩ := lt_get (show k < (mbs E.2.2).length by omega)
      obtain ⟨c1, c2, c3, c4⟩ := q4.2 k y hy
      have hy2 : y ∈ E.2.2 := (List.mem_filter.mp (List.mem_of_getElem? hy)).1
      have hyt : y.1 = 5 ∨ y.1 = 6 := by
        have := (List.mem_filter.mp (List.mem_of_getElem? hy)).2
        rw [Bool.or_eq_true, decide_eq_true_iff, decide_eq_true_iff] at this
        exact this
      have hyp := (b7 y hy2).2.2.1
      have step : ∀ {X : Option (Unit × MM)} {S1 : Nat × Nat → Prop}, LR m d [] X (fun q => S1 q ∨ (∃ i y, k + 1 ≤ i ∧ (mbs E.2.2)[i]? = some y ∧ ng B K e c y ∧ q = (4, x.1)) ∨ T q) → (∀ q, S1 q ↔ (S q ∨ (ng B K e c y ∧ q = (4, x.1)))) → LR m d [] X (fun q => S q ∨ (∃ i y, k ≤ i ∧ (mbs E.2.2)[i]? = some y ∧ ng B K e c y ∧ q = (4, x.1)) ∨ T q) := fun hX hS => hX.cg (fun z => by
        rw [hS z]
        constructor
        · intro w
          rcases w with (w | w) | ⟨i, y', a, b⟩ | w
          · exact Or.inl w
          · exact Or.inr (Or.inl ⟨k, y, Nat.le_refl _, hy, w⟩)
          · exact Or.inr (Or.inl ⟨i, y', by omega, b⟩)
          · exact Or.inr (Or.inr w)
        · intro w
          rcases w with w | ⟨i, y', a, b, w⟩ | w
          · exact Or.inl (Or.inl w)
          · by_cases ei : i = k
            · rw [ei, hy] at b
              cases b
              exact Or.inl (Or.inr w)
            · exact Or.inr (Or.inl ⟨i, y', by omega, b, w⟩)
          · exact Or.inr (Or.inr w))
      rw [if_neg (fun z => q ((nI_leI (by omega) (by omega)).mp z)), nb_e (mr_20 h1), mz_20 h1, show (8 : Int32) = nI 8 from rfl, pk_mul, nI_add, ib_n (by omega) (by omega), nI_clamp (by omega), nI_1]
      by_cases y5 : y.1 = 5
      · rw [c3 y5, if_neg (by decide), nb_e (mr_18 h1), mz_18 h1, ib_n (by omega) (by omega), nb_e (mr_19 h1), mz_19 h1, ib_n (by omega) (by omega), c1, c2, bd_e (mm_giveBy hV0 hyp b1 (by omega))]
        cases hg : gvF B e c y.2.1 (gvi 0 K) 0 with
        | some g =>
          have hgl : g < 500 := by
            have := gvF_lt hg
            have := hV0.2.2.2.2.2.1
            omega
          rw [if_pos (show 0 ≤ oA (520 * tt) (some g) from nI_pos' (by omega))]
          exact step (ih (k + 1) m F S hV0 hw hm (by omega) (by omega)) (fun z => by simp [ng, hg])
        | none =>
          rw [if_neg (show ¬ 0 ≤ oA (520 * tt) none from (by decide : ¬ 0 ≤ (-1 : Int32))), nb_e (mr_14 h1), mz_14 h1, ib_n (by omega) (by omega), nI_clamp (by omega), (q3.2 c x hx).1]
          obtain ⟨m1, F1, a1, a2, a3, a4⟩ := lr_wrong (G := G) (k := 4) hw hm (by omega) (by omega) (show x.1 < 100000 by have := (b6 x (List.mem_of_getElem? hx)).1; omega)
          rw [show (4 : Int32) = nI 4 from rfl, bd_e a1]
          exact step ((ih (k + 1) m1 F1 _ (hV0.kept (a2.mono (fun _ z => z) (by simp))) a3 a4 (by omega) (by omega)).tr a2 (by simp)) (fun z => by simp [ng, hg, y5])
      · obtain ⟨s, g1, g2, g3⟩ := c4 (by omega)
        have hct : ct K y.2.2.2 ≤ y.2.2.2 := by
          unfold ct aK
          exact Nat.le_trans (List.length_filter_le _ _) (by rw [List.length_take]; omega)
        have := (b7 y hy2).2.2.2.2
        rw [g2, if_pos (nI_pos' (by omega))]
        exact step (ih (k + 1) m F S hV0 hw hm (by omega) (by omega)) (fun z => by simp [ng, y5])
theorem look_143 {G : GG} {d tt len e : Nat} {B : Nat → Int32} {K : List Ko} {P : List Enm} {E : Enm} (hE : P[e]? = some E) : ∀ (fu k : Nat) (m : MM) (F : Nat × Nat) (S : Nat × Nat → Prop), VQ G m d tt len B K P → WF m d F → MF S F → E.2.1.length - k < fu → k ≤ E.2.1.length → LR m d [] (B_X11_lookAtEnum_143 G fu d (nI (8 * tt + e)) (nI k) m) (fun q => S q ∨ ∃ c x, k ≤ c ∧ E.2.1[c]? = some x ∧ ((tw B E x.1 ∧ q = (2, x.1)) ∨ ∃ y ∈ mbs E.2.2, ng B K e c y ∧ q = (4, x.1))) := by
  intro fu
  induction fu with
  | zero => intro k m F S _ _ _ h; omega
  | succ fu ih =>
    intro k m F S hV hw hm hf hk2
    have hV0 := hV
    obtain ⟨h1, h2, h3, h4, h5, -⟩ := hV
    obtain ⟨b1, b2, b3, b4, b5, b6, b7⟩ := pb_en h5 hE
    obtain ⟨q1, q2, q3, q4, q5, q6⟩ := h3.2 e E hE
    have ht := h2.2.1
    rw [B_X11_lookAtEnum_143, nb_e (mr_9 h1), mz_9 h1, ib_n (by omega) (by omega), nI_clamp (by omega), q3.1]
    by_cases q : E.2.1.length ≤ k
    · rw [if_pos ((nI_leI (by omega) (by omega)).mpr q)]
      refine ⟨m, F, rfl, OM.rf, hw, hm.cg (fun z => ⟨Or.inl, fun w => ?_⟩)⟩
      rcases w with w | ⟨c, x, a, b, -⟩
      · exact w
      · have := get_lt b
        omega
    · obtain ⟨x, hx⟩ := lt_get (show k < E.2.1.length by omega)
      obtain ⟨c1, c2, -⟩ := q3.2 k x hx
      have hxp := (b6 x (List.mem_of_getElem? hx)).1
      rw [if_neg (fun z => q ((nI_leI (by omega) (by omega)).mp z)), nb_e (mr_14 h1), mz_14 h1, show (12 : Int32) = nI 12 from rfl, pk_mul, nI_add, ib_n (by omega) (by omega), nb_e (mr_15 h1), mz_15 h1, ib_n (by omega) (by omega), nI_clamp (by omega), c1, c2]
      obtain ⟨m1, F1, a1, a2, a3, a4⟩ := mm_first hV0 hE hxp hw hm
      rw [bd_e a1]
      have hV1 := hV0.kept (a2.mono (fun _ z => z) (by simp))
      refine ((look_180 hE hx (T := fun q => ∃ c x, k + 1 ≤ c ∧ E.2.1[c]? = some x ∧ ((tw B E x.1 ∧ q = (2, x.1)) ∨ ∃ y ∈ mbs E.2.2, ng B K e c y ∧ q = (4, x.1))) (fun mz Fz Sz v1 v2 v3 => ih (k + 1) mz Fz Sz v1 v2 v3 (by omega) (by omega)) FU 0 m1 F1 _ hV1 a3 a4 (by unfold FU; omega) (by omega)).tr a2 (by simp)).cg (fun z => ?_)
      constructor
      · intro w
        rcases w with (w | w) | ⟨i, y, a, b, w⟩ | ⟨c, x', a, b⟩
        · exact Or.inl w
        · exact Or.inr ⟨k, x, Nat.le_refl _, hx, Or.inl w⟩
        · exact Or.inr ⟨k, x, Nat.le_refl _, hx, Or.inr ⟨y, List.mem_of_getElem? b, w⟩⟩
        · exact Or.inr ⟨c, x', by omega, b⟩
      · intro w
        rcases w with w | ⟨c, x', a, b, w⟩
        · exact Or.inl (Or.inl w)
        · by_cases ei : c = k
          · rw [ei, hx] at b
            cases b
            subst ei
            rcases w with w | ⟨y, hy, w⟩
            · exact Or.inl (Or.inr w)
            · obtain ⟨i, hi⟩ := List.getElem?_of_mem hy
              exact Or.inr (Or.inl ⟨i, y, by omega, hi, w⟩)
          · exact Or.inr (Or.inr ⟨c, x', by omega, b, w⟩)
theorem look_98 {G : GG} {d tt len e : Nat} {B : Nat → Int32} {K : List Ko} {P : List Enm} {E : Enm} (hE : P[e]? = some E) : ∀ (fu k : Nat) (m : MM) (F : Nat × Nat) (S : Nat × Nat → Prop), VQ G m d tt len B K P → WF m d F → MF S F → (fls E.2.2).length - k < fu → k ≤ (fls E.2.2).length → LR m d [] (B_X11_lookAtEnum_98 G fu d (nI (8 * tt + e)) (nI k) m) (fun q => S q ∨ (∃ c x, k ≤ c ∧ (fls E.2.2)[c]? = some x ∧ tw B E x.2.1 ∧ q = (2, x.2.1)) ∨ ∃ c x, 0 ≤ c ∧ E.2.1[c]? = some x ∧ ((tw B E x.1 ∧ q = (2, x.1)) ∨ ∃ y ∈ mbs E.2.2, ng B K e c y ∧ q = (4, x.1))) := by
  intro fu
  induction fu with
  | zero => intro k m F S _ _ _ h; omega
  | succ fu ih =>
    intro k m F S hV hw hm hf hk2
    have hV0 := hV
    obtain ⟨h1, h2, h3, h4, h5, -⟩ := hV
    obtain ⟨b1, b2, b3, b4, b5, b6, b7⟩ := pb_en h5 hE
    obtain ⟨q1, q2, q3, q4, q5, q6⟩ := h3.2 e E hE
    have ht := h2.2.1
    rw [B_X11_lookAtEnum_98, nb_e (mr_11 h1), mz_11 h1, ib_n (by omega) (by omega), nI_clamp (by omega), q5.1]
    by_cases q : (fls E.2.2).length ≤ k
    · rw [if_pos ((nI_leI (by omega) (by omega)).mpr q), show (0 : Int32) = nI 0 from rfl]
      refine (look_143 hE FU 0 m F S hV0 hw hm (by unfold FU; omega) (by omega)).cg (fun z => ⟨fun w => w.imp id Or.inr, fun w => ?_⟩)
      rcases w with w | ⟨c, x, a, b, -⟩ | w
      · exact Or.inl w
      · have := get_lt b
        omega
      · exact Or.inr w
    · obtain ⟨x, hx⟩ := lt_get (show k < (fls E.2.2).length by omega)
      obtain ⟨c1, c2, -⟩ := q5.2 k x hx
      have hx2 : x ∈ E.2.2 := (List.mem_filter.mp (List.mem_of_getElem? hx)).1
      have hxp := (b7 x hx2).2.2.1
      rw [if_neg (fun z => q ((nI_leI (by omega) (by omega)).mp z)), nb_e (mr_22 h1), mz_22 h1, show (6 : Int32) = nI 6 from rfl, pk_mul, nI_add, ib_n (by omega) (by omega), nb_e (mr_23 h1), mz_23 h1, ib_n (by omega) (by omega), nI_clamp (by omega), c1, c2, nI_1]
      obtain ⟨m1, F1, a1, a2, a3, a4⟩ := mm_first hV0 hE hxp hw hm
      rw [bd_e a1]
      refine ((ih (k + 1) m1 F1 _ (hV0.kept (a2.mono (fun _ z => z) (by simp))) a3 a4 (by omega) (by omega)).tr a2 (by simp)).cg (fun z => ?_)
      constructor
      · intro w
        rcases w with (w | w) | ⟨c, x', a, b⟩ | w
        · exact Or.inl w
        · exact Or.inr (Or.inl ⟨k, x, Nat.le_refl _, hx, w⟩)
        · exact Or.inr (Or.inl ⟨c, x', by omega, b⟩)
        · exact Or.inr (Or.inr w)
      · intro w
        rcases w with w | ⟨c, x', a, b, w⟩ | w
        · exact Or.inl (Or.inl w)
        · by_cases ei : c = k
          · rw [ei, hx] at b
            cases b
            exact Or.inl (Or.inr w)
          · exact Or.inr (Or.inl ⟨c, x', by omega, b, w⟩)
        · exact Or.inr (Or.inr w)
theorem look_53 {G : GG} {d tt len e : Nat} {B : Nat → Int32} {K : List Ko} {P : List Enm} {E : Enm} (hE : P[e]? = some E) : ∀ (fu k : Nat) (m : MM) (F : Nat × Nat) (S : Nat × Nat → Prop), VQ G m d tt len B K P → WF m d F → MF S F → (mbs E.2.2).length - k < fu → k ≤ (mbs E.2.2).length → LR m d [] (B_X11_lookAtEnum_53 G fu d (nI (8 * tt + e)) (nI k) m) (fun q => S q ∨ (∃ c x, k ≤ c ∧ (mbs E.2.2)[c]? = some x ∧ tw B E x.2.1 ∧ q = (2, x.2.1)) ∨ (∃ c x, 0 ≤ c ∧ (fls E.2.2)[c]? = some x ∧ tw B E x.2.1 ∧ q = (2, x.2.1)) ∨ ∃ c x, 0 ≤ c ∧ E.2.1[c]? = some x ∧ ((tw B E x.1 ∧ q = (2, x.1)) ∨ ∃ y ∈ mbs E.2.2, ng B K e c y ∧ q = (4, x.1))) := by
  intro fu
  induction fu with
  | zero => intro k m F S _ _ _ h; omega
  | succ fu ih =>
    intro k m F S hV hw hm hf hk2
    have hV0 := hV
    obtain ⟨h1, h2, h3, h4, h5, -⟩ := hV
    obtain ⟨b1, b2, b3, b4, b5, b6, b7⟩ := pb_en h5 hE
    obtain ⟨q1, q2, q3, q4, q5, q6⟩ := h3.2 e E hE
    have ht := h2.2.1
    rw [B_X11_lookAtEnum_53, nb_e (mr_10 h1), mz_10 h1, ib_n (by omega) (by omega), nI_clamp (by omega), q4.1]
    by_cases q : (mbs E.2.2).length ≤ k
    · rw [if_pos ((nI_leI (by omega) (by omega)).mpr q), show (0 : Int32) = nI 0 from rfl]
      refine (look_98 hE FU 0 m F S hV0 hw hm (by unfold FU; omega) (by omega)).cg (fun z => ⟨fun w => w.imp id Or.inr, fun w => ?_⟩)
      rcases w with w | ⟨c, x, a, b, -⟩ | w
      · exact Or.inl w
      · have := get_lt b
        omega
      · exact Or.inr w
    · obtain ⟨x, hx⟩ := lt_get (show k < (mbs E.2.2).length by omega)
      obtain ⟨c1, c2, -⟩ := q4.2 k x hx
      have hx2 : x ∈ E.2.2 := (List.mem_filter.mp (List.mem_of_getElem? hx)).1
      have hxp := (b7 x hx2).2.2.1
      rw [if_neg (fun z => q ((nI_leI (by omega) (by omega)).mp z)), nb_e (mr_18 h1), mz_18 h1, show (8 : Int32) = nI 8 from rfl, pk_mul, nI_add, ib_n (by omega) (by omega), nb_e (mr_19 h1), mz_19 h1, ib_n (by omega) (by omega), nI_clamp (by omega), c1, c2, nI_1]
      obtain ⟨m1, F1, a1, a2, a3, a4⟩ := mm_first hV0 hE hxp hw hm
      rw [bd_e a1]
      refine ((ih (k + 1) m1 F1 _ (hV0.kept (a2.mono (fun _ z => z) (by simp))) a3 a4 (by omega) (by omega)).tr a2 (by simp)).cg (fun z => ?_)
      constructor
      · intro w
        rcases w with (w | w) | ⟨c, x', a, b⟩ | w
        · exact Or.inl w
        · exact Or.inr (Or.inl ⟨k, x, Nat.le_refl _, hx, w⟩)
        · exact Or.inr (Or.inl ⟨c, x', by omega, b⟩)
        · exact Or.inr (Or.inr w)
      · intro w
        rcases w with w | ⟨c, x', a, b, w⟩ | w
        · exact Or.inl (Or.inl w)
        · by_cases ei : c = k
          · rw [ei, hx] at b
            cases b
            exact Or.inl (Or.inr w)
          · exact Or.inr (Or.inl ⟨c, x', by omega, b, w⟩)
        · exact Or.inr (Or.inr w)
/-- all that one enumeration has wrong by the reference -/
def rE (B : Nat → Int32) (K : List Ko) (P : List Enm) (e : Nat) (E : Enm) (q : Nat × Nat) : Prop := (∃ j x, j < e ∧ P[j]? = some x ∧ NE B E.1 x.1 ∧ q = (2, E.1)) ∨ (∃ a b r, mks E.2.2 = a :: b :: r ∧ q = (2, b.2.1)) ∨ (∃ n, (n ∈ mbp E ∨ n ∈ flp E ∨ n ∈ csp E) ∧ tw B E n ∧ q = (2, n)) ∨ ∃ c x, E.2.1[c]? = some x ∧ ∃ y ∈ mbs E.2.2, ng B K e c y ∧ q = (4, x.1)
theorem look_enum {G : GG} {m : MM} {d tt len e : Nat} {B : Nat → Int32} {K : List Ko} {P : List Enm} {E : Enm} {F : Nat × Nat} {S : Nat × Nat → Prop} (hE : P[e]? = some E) (hV : VQ G m d tt len B K P) (hw : WF m d F) (hm : MF S F) : LR m d [] (M_X11_lookAtEnum G d (nI (8 * tt + e)) m) (fun q => S q ∨ rE B K P e E q) := by
  have hV0 := hV
  obtain ⟨h1, h2, h3, h4, h5, -⟩ := hV
  obtain ⟨b1, b2, b3, b4, b5, b6, b7⟩ := pb_en h5 hE
  obtain ⟨q1, q2, q3, q4, q5, q6⟩ := h3.2 e E hE
  have ht := h2.2.1
  -- from the makers on
  have mk31 : ∀ (mz : MM) (Fz : Nat × Nat) (Sz : Nat × Nat → Prop), VQ G mz d tt len B K P → WF mz d Fz → MF Sz Fz → LR mz d [] (B_X11_lookAtEnum_31 G d (nI (8 * tt + e)) mz) (fun q => Sz q ∨ (∃ a b r, mks E.2.2 = a :: b :: r ∧ q = (2, b.2.1)) ∨ (∃ n, (n ∈ mbp E ∨ n ∈ flp E ∨ n ∈ csp E) ∧ tw B E n ∧ q = (2, n)) ∨ ∃ c x, E.2.1[c]? = some x ∧ ∃ y ∈ mbs E.2.2, ng B K e c y ∧ q = (4, x.1)) := by
    intro mz Fz Sz hVz wz mfz
    obtain ⟨g1, g2, g3, -⟩ := id hVz
    have k6 := (g3.2 e E hE).2.2.2.2.2
    have set : ∀ q, ((∃ c x, 0 ≤ c ∧ (mbs E.2.2)[c]? = some x ∧ tw B E x.2.1 ∧ q = (2, x.2.1)) ∨ (∃ c x, 0 ≤ c ∧ (fls E.2.2)[c]? = some x ∧ tw B E x.2.1 ∧ q = (2, x.2.1)) ∨ ∃ c x, 0 ≤ c ∧ E.2.1[c]? = some x ∧ ((tw B E x.1 ∧ q = (2, x.1)) ∨ ∃ y ∈ mbs E.2.2, ng B K e c y ∧ q = (4, x.1))) ↔ ((∃ n, (n ∈ mbp E ∨ n ∈ flp E ∨ n ∈ csp E) ∧ tw B E n ∧ q = (2, n)) ∨ ∃ c x, E.2.1[c]? = some x ∧ ∃ y ∈ mbs E.2.2, ng B K e c y ∧ q = (4, x.1)) := by
      intro q
      constructor
      · intro w
        rcases w with ⟨c, x, -, a, b, r⟩ | ⟨c, x, -, a, b, r⟩ | ⟨c, x, -, a, w⟩
        · exact Or.inl ⟨x.2.1, Or.inl (List.mem_map.mpr ⟨x, List.mem_of_getElem? a, rfl⟩), b, r⟩
        · exact Or.inl ⟨x.2.1, Or.inr (Or.inl (List.mem_map.mpr ⟨x, List.mem_of_getElem? a, rfl⟩)), b, r⟩
        · rcases w with ⟨b, r⟩ | w
          · exact Or.inl ⟨x.1, Or.inr (Or.inr (List.mem_map.mpr ⟨x, List.mem_of_getElem? a, rfl⟩)), b, r⟩
          · exact Or.inr ⟨c, x, a, w⟩
      · intro w
        rcases w with ⟨n, a, b, r⟩ | ⟨c, x, a, w⟩
        · rcases a with a | a | a
          · obtain ⟨x, hx, rfl⟩ := List.mem_map.mp a
            obtain ⟨i, hi⟩ := List.getElem?_of_mem hx
            exact Or.inl ⟨i, x, by omega, hi, b, r⟩
          · obtain ⟨x, hx, rfl⟩ := List.mem_map.mp a
            obtain ⟨i, hi⟩ := List.getElem?_of_mem hx
            exact Or.inr (Or.inl ⟨i, x, by omega, hi, b, r⟩)
          · obtain ⟨x, hx, rfl⟩ := List.mem_map.mp a
            obtain ⟨i, hi⟩ := List.getElem?_of_mem hx
            exact Or.inr (Or.inr ⟨i, x, by omega, hi, Or.inl ⟨b, r⟩⟩)
        · exact Or.inr (Or.inr ⟨c, x, by omega, a, Or.inr w⟩)
    unfold B_X11_lookAtEnum_31
    rw [nb_e (mr_49 g1), mz_49 g1, ib_n (by omega) (by omega), nI_clamp (by omega), show (0 : Int32) = nI 0 from rfl, ib_n (by omega) (by omega)]
    have go : ∀ (my : MM) (Fy : Nat × Nat) (Sy : Nat × Nat → Prop), VQ G my d tt len B K P → WF my d Fy → MF Sy Fy → LR my d [] (B_X11_lookAtEnum_53 G FU d (nI (8 * tt + e)) (nI 0) my) (fun q => Sy q ∨ (∃ n, (n ∈ mbp E ∨ n ∈ flp E ∨ n ∈ csp E) ∧ tw B E n ∧ q = (2, n)) ∨ ∃ c x, E.2.1[c]? = some x ∧ ∃ y ∈ mbs E.2.2, ng B K e c y ∧ q = (4, x.1)) := fun my Fy Sy v1 v2 v3 => (look_53 hE FU 0 my Fy Sy v1 v2 v3 (by unfold FU; omega) (by omega)).cg (fun z => by rw [set z])
    have nom : (∀ a b r, mks E.2.2 ≠ a :: b :: r) → gI mz (d + 38) (8 * tt + e) = -1 := fun hn => by
      unfold QK at k6
      cases hk : mks E.2.2 with
      | nil => rw [hk] at k6; exact k6.2
      | cons a l =>
        cases l with
        | nil => rw [hk] at k6; exact k6.2
        | cons b r => exact absurd hk (hn a b r)
    by_cases hm2 : ∃ a b r, mks E.2.2 = a :: b :: r
    · obtain ⟨a, b, r, hk⟩ := hm2
      have hv : gI mz (d + 38) (8 * tt + e) = nI b.2.1 := by
        unfold QK at k6
        rw [hk] at k6
        exact k6.2
      have hbp : b.2.1 < 4096 := (b7 b (List.mem_filter.mp (show b ∈ mks E.2.2 by rw [hk]; simp)).1).2.2.1
      rw [hv, if_neg (show ¬ nI b.2.1 < nI 0 from nI_pos (by omega))]
      obtain ⟨m1, F1, a1, a2, a3, a4⟩ := lr_wrong (G := G) (k := 2) wz mfz (by omega) (by omega) (show b.2.1 < 100000 by omega)
      rw [show (2 : Int32) = nI 2 from rfl, bd_e a1]
      refine ((go m1 F1 _ (hVz.kept (a2.mono (fun _ z => z) (by simp))) a3 a4).tr a2 (by simp)).cg (fun z => ?_)
      constructor
      · intro w
        rcases w with (w | w) | w
        · exact Or.inl w
        · exact Or.inr (Or.inl ⟨a, b, r, hk, w⟩)
        · exact Or.inr (Or.inr w)
      · intro w
        rcases w with w | ⟨a', b', r', hk', w⟩ | w
        · exact Or.inl (Or.inl w)
        · rw [hk] at hk'
          cases hk'
          exact Or.inl (Or.inr w)
        · exact Or.inr w
    · rw [nom (fun a b r z => hm2 ⟨a, b, r, z⟩), if_pos (by decide)]
      refine (go mz Fz Sz hVz wz mfz).cg (fun z => ⟨fun w => w.imp id Or.inr, fun w => ?_⟩)
      rcases w with w | ⟨a, b, r, hk, w⟩ | w
      · exact Or.inl w
      · exact absurd ⟨a, b, r, hk⟩ hm2
      · exact Or.inr w
  unfold M_X11_lookAtEnum
  rw [nb_e (mr_7 h1), mz_7 h1, ib_n (by omega) (by omega), nb_e (mr_8 h1), mz_8 h1, ib_n (by omega) (by omega), nI_clamp (by omega), q1, q2, bd_e (mm_enumOf hV0 b2)]
  have hself : (enp P)[e]? = some E.1 := by unfold enp; rw [List.getElem?_map, hE]; rfl
  cases hf : fn B E.1 (enp P) with
  | none => exact absurd (NE.rf E.1) (fn_none.mp hf E.1 (List.mem_of_getElem? hself))
  | some i =>
    have hi := fn_lt hf
    have hil : i < 8 := by
      have := h5.1
      simp only [enp, List.length_map] at hi
      omega
    obtain ⟨y, y1, y2, y3⟩ := fn_some.mp hf
    have hie : i ≤ e := by
      apply Decidable.byContradiction
      intro z
      exact y3 e E.1 (by omega) hself (NE.rf _)
    by_cases ie : e ≤ i
    · rw [if_pos (show nI (8 * tt + e) ≤ oA (8 * tt) (some i) from (nI_leI (by omega) (by omega)).mpr (by omega))]
      refine (mk31 m F S hV0 hw hm).cg (fun z => ⟨fun w => w.imp id Or.inr, fun w => ?_⟩)
      rcases w with w | ⟨j, x, a, b, c, w⟩ | w
      · exact Or.inl w
      · exact absurd c (y3 j x.1 (by omega) (by unfold enp; rw [List.getElem?_map, b]; rfl))
      · exact Or.inr w
    · rw [if_neg (show ¬ nI (8 * tt + e) ≤ oA (8 * tt) (some i) from fun z => ie (by have := (nI_leI (by omega) (by omega)).mp z; omega)), nb_e (mr_7 h1), mz_7 h1, ib_n (by omega) (by omega), q1]
      obtain ⟨m1, F1, a1, a2, a3, a4⟩ := lr_wrong (G := G) (k := 2) hw hm (by omega) (by omega) (show E.1 < 100000 by omega)
      rw [show (2 : Int32) = nI 2 from rfl, bd_e a1]
      refine ((mk31 m1 F1 _ (hV0.kept (a2.mono (fun _ z => z) (by simp))) a3 a4).tr a2 (by simp)).cg (fun z => ?_)
      constructor
      · intro w
        rcases w with (w | w) | w
        · exact Or.inl w
        · refine Or.inr (Or.inl ?_)
          unfold enp at y1
          rw [List.getElem?_map] at y1
          cases hP : P[i]? with
          | none => rw [hP] at y1; simp at y1
          | some x =>
            rw [hP] at y1
            cases y1
            exact ⟨i, x, by omega, hP, y2, w⟩
        · exact Or.inr (Or.inr w)
      · intro w
        rcases w with w | ⟨j, x, a, b, c, w⟩ | w
        · exact Or.inl (Or.inl w)
        · exact Or.inl (Or.inr w)
        · exact Or.inr w
