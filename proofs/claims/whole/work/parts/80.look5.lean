/-! ===== L2: the reference looks at all ===== -/
theorem RA.ab {m m1 : MM} {d tt k : Nat} {B : Nat → Int32} {A : List Ko} {q : Ko} (h : RA m d tt B A) (hq : A[k]? = some q) (o : OM m m1 d [46, 47] [32, 33]) (h1 : ∀ j, j ≠ 2100 * tt + k → gI m1 (d + 32) j = gI m (d + 32) j) (h2 : q.1.1 = 1 → gI m1 (d + 32) (2100 * tt + k) = gI m (d + 32) (2100 * tt + k)) : RA m1 d tt B A := by
  refine ⟨by rw [o.A (by decide) (by simp)]; exact h.1, fun j x hx => ?_⟩
  obtain ⟨a1, a2, a3, a4, a5, a6, a7⟩ := h.2 j x hx
  have g : ∀ i, 31 ≤ i → i ≤ 40 → i ≠ 32 → i ≠ 33 → gI m1 (d + i) (2100 * tt + j) = gI m (d + i) (2100 * tt + j) := fun i i1 i2 i3 i4 => o.A (by omega) (by simp; omega) _
  refine ⟨by rw [g 31 (by omega) (by omega) (by omega) (by omega)]; exact a1, fun z => ?_, fun z z' => by rw [g 34 (by omega) (by omega) (by omega) (by omega)]; exact a3 z z', fun z => by rw [g 35 (by omega) (by omega) (by omega) (by omega)]; exact a4 z, fun z => by rw [g 36 (by omega) (by omega) (by omega) (by omega), g 37 (by omega) (by omega) (by omega) (by omega)]; exact a5 z, by rw [g 39 (by omega) (by omega) (by omega) (by omega)]; exact a6, by rw [g 40 (by omega) (by omega) (by omega) (by omega)]; exact a7⟩
  by_cases e : j = k
  · subst e
    rw [hq] at hx
    cases hx
    rw [h2 z]
    exact a2 z
  · rw [h1 _ (by omega)]
    exact a2 z
/-- the other half of what the looks write is as it was -/
def FH (m m1 : MM) (d tt : Nat) : Prop := ∀ o j, o = 32 ∨ o = 33 → j < 2100 * tt ∨ 2100 * tt + 2100 ≤ j → gI m1 (d + o) j = gI m (d + o) j
theorem look_159 {G : GG} {d tt len : Nat} {B : Nat → Int32} {K : List Ko} {P : List Enm} (hKl : (aK K).length ≤ 2001) : ∀ (fu k : Nat) (m : MM) (F : Nat × Nat) (S : Nat × Nat → Prop), VQ G m d tt len B K P → RA m d tt B (aK K) → (∀ j q, j < k → (aK K)[j]? = some q → AB m d tt B P j q) → WF m d F → MF S F → (aK K).length - k < fu → k ≤ (aK K).length → ∃ m1 F1, B_X11_lookAtAll_159 G fu d (nI (2100 * tt + k)) m = some ((), m1) ∧ OM m m1 d [46, 47] [32, 33] ∧ WF m1 d F1 ∧ MF (fun n => S n ∨ ∃ j q, k ≤ j ∧ (aK K)[j]? = some q ∧ rA B P q n) F1 ∧ RA m1 d tt B (aK K) ∧ (∀ j q, (aK K)[j]? = some q → AB m1 d tt B P j q) ∧ FH m m1 d tt := by
  intro fu
  induction fu with
  | zero => intro k m F S _ _ _ _ _ h; omega
  | succ fu ih =>
    intro k m F S hV hR hAB hw hm hf hk
    have hV0 := hV
    obtain ⟨h1, h2, h3, h4, h5, h6, h7, h8⟩ := hV
    have ht := h2.2.1
    rw [B_X11_lookAtAll_159, nb_e (mr_33 h1), mz_33 h1, h2.1, ib_n (by omega) (by omega), nI_clamp (by omega), hR.1, show (2100 : Int32) = nI 2100 from rfl, pk_mul, nI_add]
    by_cases q : (aK K).length ≤ k
    · rw [if_pos ((nI_leI (by omega) (by omega)).mpr (by omega))]
      refine ⟨m, F, rfl, OM.rf, hw, hm.cg (fun n => ⟨Or.inl, fun w => ?_⟩), hR, fun j x hx => hAB j x (by have := get_lt hx; omega) hx, fun _ _ _ _ => rfl⟩
      rcases w with w | ⟨j, x, a, b, -⟩
      · exact w
      · have := get_lt b
        omega
    · obtain ⟨x, hx⟩ := lt_get (show k < (aK K).length by omega)
      obtain ⟨x1, x2⟩ := List.mem_filter.mp (List.mem_of_getElem? hx)
      have x2' : 1 ≤ x.1.1 ∧ x.1.1 ≤ 11 := by
        unfold isA at x2
        rw [Bool.and_eq_true, decide_eq_true_iff, decide_eq_true_iff] at x2
        exact x2
      obtain ⟨k1, k2, k3, k4, k5, k6⟩ := h7 x x1
      obtain ⟨m1, F1, e1, e2, e3, e4, e5, e6, e7⟩ := look_act hV0 (hR.2 k x hx) (k2 x2'.2 x2'.1) k1 k6 (by omega) hw hm
      rw [if_neg (fun z => q (by have := (nI_leI (by omega) (by omega)).mp z; omega)), bd_e e1, nI_1]
      have hAB1 : ∀ j q, j < k + 1 → (aK K)[j]? = some q → AB m1 d tt B P j q := fun j y hj hy => by
        by_cases e : j = k
        · subst e
          rw [hx] at hy
          cases hy
          exact e7
        · obtain ⟨c1, c2⟩ := hAB j y (by omega) hy
          obtain ⟨u1, u2⟩ := e5 (2100 * tt + j) (by omega)
          unfold AB
          rw [u1, u2]
          exact ⟨c1, c2⟩
      obtain ⟨m2, F2, f1, f2, f3, f4, f5, f6, f7⟩ := ih (k + 1) m1 F1 _ (hV0.kept e2) (hR.ab hx e2 (fun j hj => (e5 j hj).1) e6) hAB1 e3 e4 (by omega) (by omega)
      have f8 : FH m m2 d tt := fun o j ho hj => (f7 o j ho hj).trans (by rcases ho with w | w <;> subst w; exact (e5 j (by omega)).1; exact (e5 j (by omega)).2)
      refine ⟨m2, F2, f1, e2.tr1 f2, f3, f4.cg (fun n => ?_), f5, f6, f8⟩
      constructor
      · intro w
        rcases w with (w | w) | ⟨j, y, a, b⟩
        · exact Or.inl w
        · exact Or.inr ⟨k, x, Nat.le_refl _, hx, w⟩
        · exact Or.inr ⟨j, y, by omega, b⟩
      · intro w
        rcases w with w | ⟨j, y, a, b, w⟩
        · exact Or.inl (Or.inl w)
        · by_cases e : j = k
          · rw [e, hx] at b
            cases b
            exact Or.inl (Or.inr w)
          · exact Or.inr ⟨j, y, by omega, b, w⟩
/-- the result of the whole look -/
def LA (G : GG) (m : MM) (d tt : Nat) (B : Nat → Int32) (K : List Ko) (P : List Enm) (X : Option (Unit × MM)) (S : Nat × Nat → Prop) : Prop := ∃ m1 F1, X = some ((), m1) ∧ OM m m1 d [46, 47] [32, 33] ∧ WF m1 d F1 ∧ MF S F1 ∧ RA m1 d tt B (aK K) ∧ (∀ j q, (aK K)[j]? = some q → AB m1 d tt B P j q) ∧ FH m m1 d tt
theorem LA.tr {G : GG} {m m0 : MM} {d tt : Nat} {B : Nat → Int32} {K : List Ko} {P : List Enm} {X : Option (Unit × MM)} {S : Nat × Nat → Prop} (h : LA G m d tt B K P X S) (o : OM m0 m d [46, 47] []) : LA G m0 d tt B K P X S := by
  obtain ⟨m1, F1, a, b, c1, c2, c3, c4, c5⟩ := h
  exact ⟨m1, F1, a, (o.mono (fun _ z => z) (by simp)).tr1 b, c1, c2, c3, c4, fun p j hp hj => (c5 p j hp hj).trans (o.A (by omega) (by simp) j)⟩
theorem LA.cg {G : GG} {m : MM} {d tt : Nat} {B : Nat → Int32} {K : List Ko} {P : List Enm} {X : Option (Unit × MM)} {S S' : Nat × Nat → Prop} (h : LA G m d tt B K P X S) (e : ∀ q, S q ↔ S' q) : LA G m d tt B K P X S' := by
  obtain ⟨m1, F1, a, b, c, f, g⟩ := h
  exact ⟨m1, F1, a, b, c, f.cg e, g⟩
theorem RA.om {m m1 : MM} {d tt : Nat} {B : Nat → Int32} {A : List Ko} (h : RA m d tt B A) (o : OM m m1 d [46, 47] []) : RA m1 d tt B A := h.kept (fun i i1 i2 i3 => o.2.2.1 _ (by omega) (by simp))
theorem look_49 {G : GG} {d tt len : Nat} {B : Nat → Int32} {K : List Ko} {P : List Enm} (hKl : (aK K).length ≤ 2001) : ∀ (fu k : Nat) (m : MM) (F : Nat × Nat) (S : Nat × Nat → Prop), VQ G m d tt len B K P → RA m d tt B (aK K) → WF m d F → MF S F → (gvi 0 K).length - k < fu → k ≤ (gvi 0 K).length → LA G m d tt B K P (B_X11_lookAtAll_49 G fu d (nI (520 * tt + k)) m) (fun n => S n ∨ (∃ g x, k ≤ g ∧ (gvi 0 K)[g]? = some x ∧ rG B K P g x n) ∨ ∃ j q, 0 ≤ j ∧ (aK K)[j]? = some q ∧ rA B P q n) := by
  intro fu
  induction fu with
  | zero => intro k m F S _ _ _ _ h; omega
  | succ fu ih =>
    intro k m F S hV hR hw hm hf hk
    have hV0 := hV
    obtain ⟨h1, h2, h3, h4, h5, h6, h7, h8⟩ := hV
    have ht := h2.2.1
    rw [B_X11_lookAtAll_49, nb_e (mr_27 h1), mz_27 h1, h2.1, ib_n (by omega) (by omega), nI_clamp (by omega), h4.1, show (520 : Int32) = nI 520 from rfl, pk_mul, nI_add, show (2100 : Int32) = nI 2100 from rfl, pk_mul]
    by_cases q : (gvi 0 K).length ≤ k
    · rw [if_pos ((nI_leI (by omega) (by omega)).mpr (by omega))]
      have := look_159 hKl FU 0 m F S hV0 hR (fun j x hj => by omega) hw hm (by unfold FU; omega) (by omega)
      refine LA.cg this (fun n => ⟨fun w => w.imp id Or.inr, fun w => ?_⟩)
      rcases w with w | ⟨g, x, a, b, -⟩ | w
      · exact Or.inl w
      · have := get_lt b
        omega
      · exact Or.inr w
    · obtain ⟨x, hx⟩ := lt_get (show k < (gvi 0 K).length by omega)
      have hxm := List.mem_of_getElem? hx
      obtain ⟨⟨E, hE, hc⟩, -⟩ := h8 x hxm
      obtain ⟨b1, b2, b3, b4, b5, b6, b7⟩ := pb_en h5 hE
      obtain ⟨c1, c2, c3, -⟩ := h4.2 k x hx
      have hpx : x.2.1.2.1 < 4096 := by
        have := gvi_mem K 0 x hxm
        exact (h7 x.2 this.1).2.2.1 this.2
      rw [if_neg (fun z => q (by have := (nI_leI (by omega) (by omega)).mp z; omega)), nb_e (mr_28 h1), mz_28 h1, ib_n (by omega) (by omega), nb_e (mr_29 h1), mz_29 h1, ib_n (by omega) (by omega), nb_e (mr_30 h1), mz_30 h1, ib_n (by omega) (by omega), nI_clamp (by omega), c1, c2, c3, bd_e (mm_giveBy hV0 hpx b1 (by omega))]
      -- the member's look and on
      have f110 : ∀ (mz : MM) (Fz : Nat × Nat) (Sz : Nat × Nat → Prop), OM m mz d [46, 47] [] → WF mz d Fz → MF Sz Fz → (∀ n, Sz n ↔ (S n ∨ ∃ j y, j < k ∧ (gvi 0 K)[j]? = some y ∧ y.2.2.1 = x.2.2.1 ∧ y.2.2.2.2 = x.2.2.2.2 ∧ NE B y.2.1.2.1 x.2.1.2.1 ∧ n = (2, x.2.1.2.1))) → LA G m d tt B K P (B_X11_lookAtAll_110 G (B_X11_lookAtAll_49 G fu) d (nI (520 * tt + k)) (nI (12 * (8 * tt + x.2.2.1) + x.2.2.2.2)) mz) (fun n => S n ∨ (∃ g x, k ≤ g ∧ (gvi 0 K)[g]? = some x ∧ rG B K P g x n) ∨ ∃ j q, 0 ≤ j ∧ (aK K)[j]? = some q ∧ rA B P q n) := by
        intro mz Fz Sz oz wz mfz sz
        have hVz := hV0.kept (oz.mono (fun _ z => z) (by simp))
        have hz1 := hVz.1
        have hz4 := hVz.2.2.2.1
        obtain ⟨d1, d2, d3, -⟩ := hz4.2 k x hx
        unfold B_X11_lookAtAll_110
        rw [nb_e (mr_29 hz1), mz_29 hz1, ib_n (by omega) (by omega), nb_e (mr_30 hz1), mz_30 hz1, ib_n (by omega) (by omega), nI_clamp (by omega), d2, d3, show (12 : Int32) = nI 12 from rfl, pk_div (by omega) (by omega) (by omega), show (12 * (8 * tt + x.2.2.1) + x.2.2.2.2) / 12 = 8 * tt + x.2.2.1 by omega, bd_e (mm_memberOf hVz hE hpx), nI_1]
        have fin : ∀ {my : MM} {Fy : Nat × Nat} {Sy : Nat × Nat → Prop}, OM mz my d [46, 47] [] → WF my d Fy → MF Sy Fy → (∀ n, Sy n ↔ (Sz n ∨ (fn B x.2.1.2.1 (mbp E) = none ∧ n = (3, x.2.1.2.1)))) → LA G m d tt B K P (B_X11_lookAtAll_49 G fu d (nI (520 * tt + k + 1)) my) (fun n => S n ∨ (∃ g x, k ≤ g ∧ (gvi 0 K)[g]? = some x ∧ rG B K P g x n) ∨ ∃ j q, 0 ≤ j ∧ (aK K)[j]? = some q ∧ rA B P q n) := by
          intro my Fy Sy oy wy mfy sy
          have o2 := oz.tr1 oy
          refine ((ih (k + 1) my Fy Sy (hV0.kept (o2.mono (fun _ z => z) (by simp))) (hR.om o2) wy mfy (by omega) (by omega)).tr o2).cg (fun n => ?_)
          rw [sy, sz]
          constructor
          · intro w
            rcases w with ((w | w) | ⟨w1, w2⟩) | ⟨g, y, a, b⟩ | w
            · exact Or.inl w
            · exact Or.inr (Or.inl ⟨k, x, Nat.le_refl _, hx, Or.inl w⟩)
            · exact Or.inr (Or.inl ⟨k, x, Nat.le_refl _, hx, Or.inr ⟨E, hE, w1, w2⟩⟩)
            · exact Or.inr (Or.inl ⟨g, y, by omega, b⟩)
            · exact Or.inr (Or.inr w)
          · intro w
            rcases w with w | ⟨g, y, a, b, w⟩ | w
            · exact Or.inl (Or.inl (Or.inl w))
            · by_cases e : g = k
              · subst e
                rw [hx] at b
                cases b
                rcases w with w | ⟨E', hE', w⟩
                · exact Or.inl (Or.inl (Or.inr w))
                · rw [hE] at hE'
                  cases hE'
                  exact Or.inl (Or.inr w)
              · exact Or.inr (Or.inl ⟨g, y, by omega, b, w⟩)
            · exact Or.inr (Or.inr w)
        cases hf : fn B x.2.1.2.1 (mbp E) with
        | none =>
          rw [if_neg (show ¬ 0 ≤ oI none from (by decide : ¬ 0 ≤ (-1 : Int32))), nb_e (mr_29 hz1), mz_29 hz1, ib_n (by omega) (by omega), d2]
          obtain ⟨m1, F1, a1, a2, a3, a4⟩ := lr_wrong (G := G) (k := 3) wz mfz (by omega) (by omega) (show x.2.1.2.1 < 100000 by omega)
          rw [show (3 : Int32) = nI 3 from rfl, bd_e a1]
          exact fin a2 a3 a4 (fun n => by simp [hf])
        | some i =>
          have hi := fn_lt hf
          simp only [mbp, List.length_map] at hi
          rw [if_pos (show 0 ≤ oI (some i) from nI_pos' (by omega))]
          exact fin OM.rf wz mfz (fun n => by simp [hf])
      cases hg : gvF B x.2.2.1 x.2.2.2.2 x.2.1.2.1 (gvi 0 K) 0 with
      | none => exact absurd ⟨rfl, rfl, NE.rf _⟩ ((gvF_none _ _).mp hg x hxm)
      | some g =>
        obtain ⟨i, y, g1, g2, g3, g4, g5, g6⟩ := gvF_some _ _ _ hg
        have hgi : g = i := by omega
        subst hgi
        have hgk : g ≤ k := by
          apply Decidable.byContradiction
          intro z
          exact g6 k x (by omega) hx ⟨rfl, rfl, NE.rf _⟩
        by_cases z : k ≤ g
        · rw [if_pos (show nI (520 * tt + k) ≤ oA (520 * tt) (some g) from (nI_leI (by omega) (by omega)).mpr (by omega))]
          refine f110 m F S OM.rf hw hm (fun n => ⟨Or.inl, fun w => ?_⟩)
          rcases w with w | ⟨j, y', a, b, c, d', e, -⟩
          · exact w
          · exact absurd ⟨c, d', e⟩ (g6 j y' (by omega) b)
        · rw [if_neg (show ¬ nI (520 * tt + k) ≤ oA (520 * tt) (some g) from fun w => z (by have := (nI_leI (by omega) (by omega)).mp w; omega)), nb_e (mr_29 h1), mz_29 h1, ib_n (by omega) (by omega), c2]
          obtain ⟨m1, F1, a1, a2, a3, a4⟩ := lr_wrong (G := G) (k := 2) hw hm (by omega) (by omega) (show x.2.1.2.1 < 100000 by omega)
          rw [show (2 : Int32) = nI 2 from rfl, bd_e a1]
          refine f110 m1 F1 _ a2 a3 a4 (fun n => ⟨fun w => w.imp id (fun w => ⟨g, y, by omega, g2, g3, g4, g5, w⟩), fun w => w.imp id (fun ⟨_, _, _, _, _, _, _, w⟩ => w)⟩)
/-- all faults of a text, by the reference -/
def NR (B : Nat → Int32) (K : List Ko) (P : List Enm) (n : Nat × Nat) : Prop := (∃ e E, P[e]? = some E ∧ rE B K P e E n) ∨ (∃ g x, (gvi 0 K)[g]? = some x ∧ rG B K P g x n) ∨ ∃ q ∈ aK K, rA B P q n
theorem look_8 {G : GG} {d tt len : Nat} {B : Nat → Int32} {K : List Ko} {P : List Enm} (hKl : (aK K).length ≤ 2001) : ∀ (fu k : Nat) (m : MM) (F : Nat × Nat) (S : Nat × Nat → Prop), VQ G m d tt len B K P → RA m d tt B (aK K) → WF m d F → MF S F → P.length - k < fu → k ≤ P.length → LA G m d tt B K P (B_X11_lookAtAll_8 G fu d (nI (8 * tt + k)) m) (fun n => S n ∨ (∃ e E, k ≤ e ∧ P[e]? = some E ∧ rE B K P e E n) ∨ (∃ g x, 0 ≤ g ∧ (gvi 0 K)[g]? = some x ∧ rG B K P g x n) ∨ ∃ j q, 0 ≤ j ∧ (aK K)[j]? = some q ∧ rA B P q n) := by
  intro fu
  induction fu with
  | zero => intro k m F S _ _ _ _ h; omega
  | succ fu ih =>
    intro k m F S hV hR hw hm hf hk
    have hV0 := hV
    obtain ⟨h1, h2, h3, h4, h5, h6, h7, h8⟩ := hV
    have ht := h2.2.1
    have hP := h5.1
    rw [B_X11_lookAtAll_8, nb_e (mr_6 h1), mz_6 h1, h2.1, ib_n (by omega) (by omega), nI_clamp (by omega), h3.1, show (8 : Int32) = nI 8 from rfl, pk_mul, nI_add, show (520 : Int32) = nI 520 from rfl, pk_mul]
    by_cases q : P.length ≤ k
    · rw [if_pos ((nI_leI (by omega) (by omega)).mpr (by omega))]
      have := look_49 hKl FU 0 m F S hV0 hR hw hm (by unfold FU; omega) (by omega)
      refine LA.cg this (fun n => ⟨fun w => w.imp id Or.inr, fun w => ?_⟩)
      rcases w with w | ⟨g, x, a, b, -⟩ | w
      · exact Or.inl w
      · have := get_lt b
        omega
      · exact Or.inr w
    · obtain ⟨E, hE⟩ := lt_get (show k < P.length by omega)
      obtain ⟨m1, F1, a1, a2, a3, a4⟩ := look_enum hE hV0 hw hm
      rw [if_neg (fun z => q (by have := (nI_leI (by omega) (by omega)).mp z; omega)), bd_e a1, nI_1]
      refine ((ih (k + 1) m1 F1 _ (hV0.kept (a2.mono (fun _ z => z) (by simp))) (hR.om a2) a3 a4 (by omega) (by omega)).tr a2).cg (fun n => ?_)
      constructor
      · intro w
        rcases w with (w | w) | ⟨e, E', a, b⟩ | w
        · exact Or.inl w
        · exact Or.inr (Or.inl ⟨k, E, Nat.le_refl _, hE, w⟩)
        · exact Or.inr (Or.inl ⟨e, E', by omega, b⟩)
        · exact Or.inr (Or.inr w)
      · intro w
        rcases w with w | ⟨e, E', a, b, w⟩ | w
        · exact Or.inl (Or.inl w)
        · by_cases z : e = k
          · subst z
            rw [hE] at b
            cases b
            exact Or.inl (Or.inr w)
          · exact Or.inr (Or.inl ⟨e, E', by omega, b, w⟩)
        · exact Or.inr (Or.inr w)
theorem look_all {G : GG} {m : MM} {d tt len : Nat} {B : Nat → Int32} {K : List Ko} {P : List Enm} (hKl : (aK K).length ≤ 2001) (hV : VQ G m d tt len B K P) (hR : RA m d tt B (aK K)) (h46 : gI m d 46 = nI 0) : LA G m d tt B K P (M_X11_lookAtAll G d m) (NR B K P) := by
  have hP := hV.2.2.2.2.1.1
  have := look_8 hKl FU 0 m (0, 0) (fun _ => False) hV hR ⟨h46, fun z => absurd rfl z, by decide, by decide⟩ MF.nil (by unfold FU; omega) (by omega)
  unfold M_X11_lookAtAll
  rw [hV.2.1.1, show (8 : Int32) = nI 8 from rfl, pk_mul]
  refine LA.cg this (fun n => ?_)
  constructor
  · intro w
    rcases w with w | ⟨e, E, -, a, b⟩ | ⟨g, x, -, a, b⟩ | ⟨j, q, -, a, b⟩
    · exact absurd w id
    · exact Or.inl ⟨e, E, a, b⟩
    · exact Or.inr (Or.inl ⟨g, x, a, b⟩)
    · exact Or.inr (Or.inr ⟨q, List.mem_of_getElem? a, b⟩)
  · intro w
    rcases w with ⟨e, E, a, b⟩ | ⟨g, x, a, b⟩ | ⟨q, a, b⟩
    · exact Or.inr (Or.inl ⟨e, E, by omega, a, b⟩)
    · exact Or.inr (Or.inr (Or.inl ⟨g, x, by omega, a, b⟩))
    · obtain ⟨j, hj⟩ := List.getElem?_of_mem a
      exact Or.inr (Or.inr (Or.inr ⟨j, q, by omega, hj, b⟩))
