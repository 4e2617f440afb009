/-! ===== L2: the class's Runner: exps ===== -/
/-- the operand of a bound op -/
def opr (B : Nat → Int32) (P : List Enm) (q : Ko) : Nat := if q.1.1 = 1 then q.1.2.2.2 else if q.1.1 = 2 then (match P[q.2.1]? with
    | some E => rfd B E q
    | none => 0) else if q.1.1 = 3 then (rct B P q).1 * 12 + (rct B P q).2 else 0
/-- an op without a fault -/
def okQ (B : Nat → Int32) (P : List Enm) (q : Ko) : Prop := 1 ≤ q.1.1 ∧ q.1.1 ≤ 11 ∧ q.1.2.2.2 < 1000000000 ∧ (q.1.1 = 2 → ∃ E, P[q.2.1]? = some E ∧ rfd B E q < (fls E.2.2).length ∧ fn B q.1.2.1 (flp E) = some (rfd B E q)) ∧ (q.1.1 = 3 → ∃ E, P[(rct B P q).1]? = some E ∧ (rct B P q).2 < E.2.1.length ∧ cst B P q.1.2.1 q.1.2.2.1 = some (rct B P q)) ∧ badB q.2.2.1 q.1 = false ∧ bcd B P q = lN (opr B P q * 16 + q.1.1)
theorem okq {B : Nat → Int32} {P : List Enm} {K : List Ko} {q : Ko} (hKB : KB P.length K) (hq : q ∈ aK K) (hn : ∀ x, ¬ NR B K P x) : okQ B P q := by
  obtain ⟨hm, ha⟩ := List.mem_filter.mp hq
  unfold isA at ha
  rw [Bool.and_eq_true, decide_eq_true_iff, decide_eq_true_iff] at ha
  obtain ⟨k1, k2, k3, k4, k5, k6⟩ := hKB q hm
  obtain ⟨o1, o2, o3, o4, o5⟩ := k2 ha.2 ha.1
  have nr : ∀ x, ¬ rA B P q x := fun x w => hn x (Or.inr (Or.inr ⟨q, hq, w⟩))
  have hE : ∃ E, P[q.2.1]? = some E := lt_get k1
  obtain ⟨E, hE⟩ := hE
  refine ⟨ha.1, ha.2, o5, fun h2 => ⟨E, hE, ?_⟩, fun h3 => ?_, ?_, ?_⟩
  · cases hf : fn B q.1.2.1 (flp E) with
    | none => exact absurd (Or.inl ⟨h2, E, hE, Or.inl ⟨hf, rfl⟩⟩) (nr (6, q.1.2.1))
    | some f =>
      have := fn_lt hf
      simp only [flp, List.length_map] at this
      unfold rfd
      rw [hf]
      exact ⟨this, rfl⟩
  · cases hc : cst B P q.1.2.1 q.1.2.2.1 with
    | none => exact absurd (Or.inr (Or.inl ⟨h3, hc, rfl⟩)) (nr (6, q.1.2.1))
    | some x =>
      unfold rct
      rw [hc]
      refine (fun (z : ∃ E, P[x.1]? = some E ∧ x.2 < E.2.1.length) => ?_) ?_
      · obtain ⟨X, z1, z2⟩ := z
        exact ⟨X, z1, z2, rfl⟩
      unfold cst at hc
      split at hc
      · simp at hc
      · split at hc
        · simp at hc
        · rename_i e hfe X hX
          split at hc
          · simp at hc
          · rename_i c hfc
            cases hc
            have := fn_lt hfc
            simp only [csp, List.length_map] at this
            exact ⟨X, hX, this⟩
  · cases hb : badB q.2.2.1 q.1 with
    | false => rfl
    | true => exact absurd (Or.inr (Or.inr ⟨hb, rfl⟩)) (nr (6, q.1.2.1))
  · unfold bcd opr
    by_cases h2 : q.1.1 = 2
    · rw [if_pos h2, if_neg (by omega), if_pos h2, hE]
      dsimp only
      cases hf : fn B q.1.2.1 (flp E) with
      | none => exact absurd (Or.inl ⟨h2, E, hE, Or.inl ⟨hf, rfl⟩⟩) (nr (6, q.1.2.1))
      | some f =>
        dsimp only
        have hfl := fn_lt hf
        simp only [flp, List.length_map] at hfl
        obtain ⟨y, hy⟩ := lt_get hfl
        rw [if_neg ?_]
        · unfold rfd
          rw [hf, h2]
          rfl
        · rintro ⟨w1, w2⟩
          unfold wkd at w2
          rw [hy] at w2
          exact absurd (Or.inl ⟨h2, E, hE, Or.inr ⟨f, y, hf, w1, hy, of_decide_eq_true w2, rfl⟩⟩) (nr (5, q.1.2.1))
    · rw [if_neg h2]
      by_cases h3 : q.1.1 = 3
      · rw [if_pos h3, if_neg (by omega), if_neg h2, if_pos h3]
        cases hc : cst B P q.1.2.1 q.1.2.2.1 with
        | none => exact absurd (Or.inr (Or.inl ⟨h3, hc, rfl⟩)) (nr (6, q.1.2.1))
        | some x =>
          dsimp only
          unfold rct
          rw [hc, h3]
          rfl
      · rw [if_neg h3, encK_a]
        unfold opa
        rw [if_neg (by omega), if_neg h2, if_neg h3, if_neg h2, if_neg h3]
theorem opr_lt {B : Nat → Int32} {P : List Enm} {q : Ko} (h : okQ B P q) (hP : PB P) : opr B P q < 2 ^ 31 := by
  obtain ⟨o1, o2, o3, o4, o5, o6, o7⟩ := h
  unfold opr
  by_cases h1 : q.1.1 = 1
  · rw [if_pos h1]; omega
  rw [if_neg h1]
  by_cases h2 : q.1.1 = 2
  · obtain ⟨E, hE, hf, -⟩ := o4 h2
    have := (pb_en hP hE).2.2.2.2.1
    rw [if_pos h2, hE]
    dsimp only
    omega
  rw [if_neg h2]
  by_cases h3 : q.1.1 = 3
  · obtain ⟨E, hE, hf, -⟩ := o5 h3
    have := (pb_en hP hE).2.2.1
    have := (pb_en hP hE).1
    rw [if_pos h3]
    omega
  rw [if_neg h3]
  omega
/-- what a call that starts enumerations must do, in the class -/
def HC (G : GG) (n pl tl len : Nat) (B : Nat → Int32) (P : List Enm) (K : List Ko) (gc : Nat → Nat → Nat → Int32) (D dd : Nat) (fw : Nat → Int32 → Int32 → MM → Option (Bool × MM)) (W : Nat → Sg → Nat × Sg) : Prop := ∀ (e : Nat) (E : Enm) (m : MM) (g : Sg) (st : List Int32), P[e]? = some E → CX G m n pl tl len B P K gc g 0 st → ISg P g → zc g < D → dd + zc g ≤ 8 → st.length ≤ 21 * (dd + 1) → ∃ m1, fw (n + 210) (nI e) (nI dd) m = some (decide ((W e g).1 = 0), m1) ∧ CX G m1 n pl tl len B P K gc (W e g).2 (W e g).1 st ∧ OX m m1 n pl ∧ ((W e g).1 = 0 → (W e g).2.1 e = 1 ∨ (W e g).2.1 e = 3)
theorem CX.code {G : GG} {m : MM} {n pl tl len a : Nat} {B : Nat → Int32} {P : List Enm} {K : List Ko} {gc : Nat → Nat → Nat → Int32} {g : Sg} {k : Nat} {st : List Int32} {q : Ko} (h : CX G m n pl tl len B P K gc g k st) (hq : K[a]? = some q) (ho : okQ B P q) : M_X6_opAt G pl (nI a) m = some (nI q.1.1, m) ∧ M_X6_operandAt G pl (nI a) m = some (nI (opr B P q), m) := by
  refine co_op h.1.2.2.2.1 ?_ (by have := ho.2.1; omega) (opr_lt ho h.1.2.2.2.2.2.1)
  rw [List.getElem?_map, hq, ← ho.2.2.2.2.2.2]
  rfl
theorem cr_valOf {G : GG} {m : MM} {n pl tl len : Nat} {B : Nat → Int32} {P : List Enm} {K : List Ko} {gc : Nat → Nat → Nat → Int32} {D dd e c : Nat} {fw : Nat → Int32 → Int32 → MM → Option (Bool × MM)} {W : Nat → Sg → Nat × Sg} {E : Enm} {g : Sg} {vs ss : List Int32} (hN : PN n pl) (hT : TT n tl) (hfw : HC G n pl tl len B P K gc D dd fw W) (hW : HW P W) (hE : P[e]? = some E) (hc : c < E.2.1.length) (h : CX G m n pl tl len B P K gc g 0 (vs ++ ss)) (hI : ISg P g) (hz : zc g < D) (hd : dd + zc g ≤ 8) (hl : (vs ++ ss).length ≤ 21 * (dd + 1)) : ∃ v m1, M_X7_valOf G fw (n + 210) (nI e) (nI c) (nI dd) m = some (v, m1) ∧ CX G m1 n pl tl len B P K gc (xcn c e vs (W e g)).2.2 (xcn c e vs (W e g)).1 (vs ++ ss) ∧ OX m m1 n pl ∧ ((xcn c e vs (W e g)).1 = 0 → (xcn c e vs (W e g)).2.1 = v :: vs) := by
  obtain ⟨m1, f1, f2, f3, f4⟩ := hfw e E m g (vs ++ ss) hE h hI hz hd hl
  have he := get_lt hE
  unfold M_X7_valOf
  rw [nb_e h.2.2.2.1.2.2.1, bd_e (cv_en h.1 he), el_e rfl, bd_e f1]
  unfold xcn
  by_cases k : (W e g).1 = 0
  · have hI1 := (hW e g).2 hI e E hE
    rw [if_pos (decide_eq_true k), if_pos k, bd_e (cv_hasC f2.1 hE hc), if_pos rfl]
    obtain ⟨b1, b2, b3, b4, b5, b6, b7⟩ := pb_en f2.1.2.2.2.2.2.1 hE
    obtain ⟨s1, s2, s3, s4⟩ := f2.2.1 e E hE
    rw [s2]
    by_cases w : (W e g).2.1 e = 3 ∧ (W e g).2.2.1 e ≤ c
    · rw [if_pos w, if_neg (fun z => absurd ((nI_ltI (by omega) (by omega)).mp z) (by omega))]
      refine ⟨0, _, rfl, (f2.fld hN hT).1 1, f3.tr (OX.r hN (Or.inl rfl)), fun z => by cases z⟩
    · have hcm : c < min ((W e g).2.2.1 e) E.2.1.length := by
        rcases f4 k with z | z
        · have := hI1.2.2.2.1 z
          omega
        · have : ¬ (W e g).2.2.1 e ≤ c := fun q => w ⟨z, q⟩
          omega
      have hl9 := cv_le f2.1 he 9 (by omega)
      have hz9 : G.2.2 (pl + 4 + 12 * e + 1 + 9) = 12 := hl9.2
      rw [if_neg w, if_pos ((nI_ltI (by omega) (by omega)).mpr hcm), nb_e hl9.1, hz9, ib_n (by omega) (by omega), nI_clamp (by omega), show pl + 4 + 12 * e + 1 + 9 = pl + 4 + 12 * e + 10 by omega, s3 c hc]
      rw [k] at f2
      exact ⟨_, m1, rfl, f2, f3, fun _ => rfl⟩
  · rw [if_neg (by simp [k]), if_neg k]
    exact ⟨0, m1, rfl, f2, f3, fun z => absurd z k⟩
theorem xjn_eq {o : Nat} {y x : Int32} {l : List Int32} {g : Sg} : xjn o (y :: x :: l) g = if o = 11 ∧ y = 0 then (2, l, g) else (0, jn o x y :: l, g) := rfl
theorem cr_join {G : GG} {m : MM} {n pl tl len : Nat} {B : Nat → Int32} {P : List Enm} {K : List Ko} {gc : Nat → Nat → Nat → Int32} {g : Sg} {o : Nat} {x y : Int32} {l ss : List Int32} (hN : PN n pl) (hT : TT n tl) (h : CX G m n pl tl len B P K gc g 0 (y :: x :: l ++ ss)) (hl : (y :: x :: l ++ ss).length ≤ 189) (ho : 8 ≤ o ∧ o ≤ 11) : ∃ m1 t, M_X7_join G (n + 210) (nI o) m = some ((), m1) ∧ CX G m1 n pl tl len B P K gc g (xjn o (y :: x :: l) g).1 (t ++ ss) ∧ OX m m1 n pl ∧ (t ++ ss).length ≤ 189 ∧ ((xjn o (y :: x :: l) g).1 = 0 → t = (xjn o (y :: x :: l) g).2.1) ∧ (xjn o (y :: x :: l) g).2.2 = g := by
  simp only [List.cons_append, List.length_cons] at hl
  obtain ⟨m1, e1, e2, e3⟩ := cr_pop (st := x :: (l ++ ss)) hN hT h (by rw [List.length_cons]; omega)
  obtain ⟨m2, f1, f2, f3⟩ := cr_pop (st := l ++ ss) hN hT e2 (by omega)
  unfold M_X7_join
  rw [bd_e e1, bd_e f1]
  have fin1 : ∀ v, ∃ m3, M_X7_push G (n + 210) v m2 = some ((), m3) ∧ CX G m3 n pl tl len B P K gc g 0 (v :: l ++ ss) ∧ OX m m3 n pl := fun v => by
    obtain ⟨m3, g1, g2, g3⟩ := cr_push (v := v) hN hT f2 (by omega)
    exact ⟨m3, g1, g2, (e3.tr f3).tr g3⟩
  rcases (show o = 8 ∨ o = 9 ∨ o = 10 ∨ o = 11 by omega) with w | w | w | w
  · subst w
    obtain ⟨m3, g1, g2, g3⟩ := fin1 (x + y)
    rw [if_pos (by decide), bd_e g1]
    exact ⟨m3, (x + y) :: l, rfl, g2, g3, by simp only [List.cons_append, List.length_cons]; omega, fun _ => rfl, rfl⟩
  · subst w
    obtain ⟨m3, g1, g2, g3⟩ := fin1 (x - y)
    rw [if_neg (by decide), if_pos (by decide), bd_e g1]
    exact ⟨m3, (x - y) :: l, rfl, g2, g3, by simp only [List.cons_append, List.length_cons]; omega, fun _ => rfl, rfl⟩
  · subst w
    obtain ⟨m3, g1, g2, g3⟩ := fin1 (x * y)
    rw [if_neg (by decide), if_neg (by decide), if_pos (by decide), bd_e g1]
    exact ⟨m3, (x * y) :: l, rfl, g2, g3, by simp only [List.cons_append, List.length_cons]; omega, fun _ => rfl, rfl⟩
  · subst w
    rw [if_neg (by decide), if_neg (by decide), if_neg (by decide), if_pos (by decide)]
    unfold M_X7_divide
    rw [xjn_eq]
    by_cases y0 : y = 0
    · rw [if_pos y0, if_pos ⟨rfl, y0⟩]
      have c1 := (f2.fld hN hT).1 2
      obtain ⟨m3, g1, g2, g3⟩ := cr_push (v := 0) hN hT c1 (by omega)
      rw [show (2 : Int32) = nI 2 from rfl]
      rw [bd_e (show (some ((0 : Int32), sI m2 (n + 210) 4 (nI 2)) : Option (Int32 × MM)) = some (0, sI m2 (n + 210) 4 (nI 2)) from rfl), bd_e g1]
      exact ⟨m3, 0 :: l, rfl, g2, (e3.tr f3).tr ((OX.r hN (Or.inl rfl)).tr g3), by simp only [List.cons_append, List.length_cons]; omega, fun z => (by cases z), rfl⟩
    · obtain ⟨m3, g1, g2, g3⟩ := fin1 (x / y)
      rw [if_neg y0, if_neg (fun z => y0 z.2), nz_e y0, bd_e (show (some (x / y, m2) : Option (Int32 × MM)) = some (x / y, m2) from rfl), bd_e g1]
      exact ⟨m3, (x / y) :: l, rfl, g2, g3, by simp only [List.cons_append, List.length_cons]; omega, fun _ => rfl, rfl⟩
