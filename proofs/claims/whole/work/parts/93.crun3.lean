/-! ===== L2: the class's Runner: a step, an exp ===== -/
theorem kne {a b : Nat} {v : Int32} (e : v = nI b) (ha : a < 2 ^ 31) (hb : b < 2 ^ 31) (h : a ≠ b) : ¬ nI a = v := fun z => h ((nI_eq ha hb).mp (z.trans e))
theorem cr_step {G : GG} {m : MM} {n pl tl len : Nat} {B : Nat → Int32} {P : List Enm} {K : List Ko} {gc : Nat → Nat → Nat → Int32} {D dd e so c a : Nat} {x3 : Int32} {fw : Nat → Int32 → Int32 → MM → Option (Bool × MM)} {W : Nat → Sg → Nat × Sg} {E : Enm} {g : Sg} {vs ss : List Int32} {q : Ko} {r : List Op} (hN : PN n pl) (hT : TT n tl) (hfw : HC G n pl tl len B P K gc D dd fw W) (hW : HW P W) (hE : P[e]? = some E) (hq : K[a]? = some q) (hok : okQ B P q) (hqe : q.2.1 = e) (hqs : q.2.2.1 = so) (hx3 : so ≠ 1 → x3 = nI c ∧ c < E.2.1.length) (hdp : ∃ k, dp vs.length (q.1 :: r) = some k) (hss : ss.length ≤ 21 * dd) (hd8 : dd ≤ 8) (h : CX G m n pl tl len B P K gc g 0 (vs ++ ss)) (hI : ISg P g) (hz : zc g < D) (hd : dd + zc g ≤ 8) (hv : vs.length ≤ 21) : ∃ m1 t, M_X7_step G fw (n + 210) (nI a) (pl + 4 + 12 * e) x3 (nI dd) m = some ((), m1) ∧ CX G m1 n pl tl len B P K gc (xop W B P e E c q vs g).2.2 (xop W B P e E c q vs g).1 (t ++ ss) ∧ OX m m1 n pl ∧ (t ++ ss).length ≤ 189 ∧ ((xop W B P e E c q vs g).1 = 0 → t = (xop W B P e E c q vs g).2.1 ∧ dp vs.length [q.1] = some t.length ∧ t.length ≤ 21) := by
  have hbad := hok.2.2.2.2.2.1
  obtain ⟨c1, c2⟩ := h.code hq hok
  obtain ⟨b1, b2, b3, b4, b5, b6, b7⟩ := pb_en h.1.2.2.2.2.2.1 hE
  have he := get_lt hE
  have hlen : (vs ++ ss).length = vs.length + ss.length := List.length_append
  have r5 := h.2.2.2.1.2.2.1
  unfold M_X7_step
  rw [nb_e r5, bd_e c1, nb_e r5, bd_e c2]
  obtain ⟨kd, hdp⟩ := hdp
  -- a value is put
  have putv : ∀ v : Int32, q.1.1 ≤ 6 → xop W B P e E c q vs g = (0, v :: vs, g) → ∃ m1 t, (bd (M_X7_push G (n + 210) v m) fun _ m_8 => some ((), m_8)) = some ((), m1) ∧ CX G m1 n pl tl len B P K gc (xop W B P e E c q vs g).2.2 (xop W B P e E c q vs g).1 (t ++ ss) ∧ OX m m1 n pl ∧ (t ++ ss).length ≤ 189 ∧ ((xop W B P e E c q vs g).1 = 0 → t = (xop W B P e E c q vs g).2.1 ∧ dp vs.length [q.1] = some t.length ∧ t.length ≤ 21) := fun v h6 hx => by
    rw [dp, if_pos h6] at hdp
    have hv21 : vs.length < 21 := by
      by_cases z : vs.length < 21
      · exact z
      · rw [if_neg z] at hdp
        cases hdp
    obtain ⟨m1, e1, e2, e3⟩ := cr_push (v := v) hN hT h (by omega)
    rw [bd_e e1, hx]
    exact ⟨m1, v :: vs, rfl, e2, e3, by simp only [List.cons_append, List.length_cons]; omega, fun _ => ⟨rfl, by rw [dp, if_pos h6, if_pos hv21]; rfl, by rw [List.length_cons]; omega⟩⟩
  have o1 := hok.1
  have o2 := hok.2.1
  rcases (show q.1.1 = 1 ∨ q.1.1 = 2 ∨ q.1.1 = 3 ∨ q.1.1 = 4 ∨ q.1.1 = 5 ∨ q.1.1 = 6 ∨ q.1.1 = 7 ∨ 8 ≤ q.1.1 by omega) with w | w | w | w | w | w | w | w
  · rw [w, if_pos (by decide), show opr B P q = q.1.2.2.2 by unfold opr; rw [if_pos w]]
    exact putv _ (by omega) (by unfold xop; rw [if_pos w])
  · obtain ⟨E', hE', hf, -⟩ := hok.2.2.2.1 w
    rw [hqe, hE] at hE'
    cases hE'
    have eo : opr B P q = rfd B E q := by unfold opr; rw [if_neg (by omega), if_pos w, hqe, hE]
    have hl8 := cv_le h.1 he 8 (by omega)
    have hz8 : G.2.2 (pl + 4 + 12 * e + 1 + 8) = 6 := hl8.2
    obtain ⟨y, hy⟩ := lt_get hf
    rw [w, if_neg (by decide), if_pos (by decide), eo, bd_e (cv_hasF h.1 hE hf), if_pos rfl, nb_e hl8.1, hz8, ib_n (by omega) (by omega), nI_clamp (by omega), show pl + 4 + 12 * e + 1 + 8 = pl + 4 + 12 * e + 9 by omega, (h.2.1 e E hE).2.2.2 _ y hy]
    exact putv _ (by omega) (by unfold xop; rw [if_neg (by omega), if_pos w]; unfold fvl; rw [hy])
  · obtain ⟨E', hE', hc', -⟩ := hok.2.2.2.2.1 w
    obtain ⟨d1, d2, d3, -⟩ := pb_en h.1.2.2.2.2.2.1 hE'
    have eo : opr B P q = (rct B P q).1 * 12 + (rct B P q).2 := by unfold opr; rw [if_neg (by omega), if_neg (by omega), if_pos w]
    have ex : xop W B P e E c q vs g = xcn (rct B P q).2 (rct B P q).1 vs (W (rct B P q).1 g) := by unfold xop; rw [if_neg (by omega), if_neg (by omega), if_pos w]
    rw [dp, if_pos (by omega)] at hdp
    have hv21 : vs.length < 21 := by
      by_cases z : vs.length < 21
      · exact z
      · rw [if_neg z] at hdp
        cases hdp
    rw [w, if_neg (by decide), if_neg (by decide), if_pos (by decide), eo, show (12 : Int32) = nI 12 from rfl, pk_rem (by omega) (by omega) (by omega), pk_div (by omega) (by omega) (by omega), show ((rct B P q).1 * 12 + (rct B P q).2) / 12 = (rct B P q).1 by omega, show ((rct B P q).1 * 12 + (rct B P q).2) % 12 = (rct B P q).2 by omega]
    obtain ⟨v, m1, f1, f2, f3, f4⟩ := cr_valOf hN hT hfw hW hE' hc' h hI hz hd (by omega)
    obtain ⟨m2, e1, e2, e3⟩ := cr_push (v := v) hN hT f2 (by omega)
    rw [bd_e f1, bd_e e1, ex]
    refine ⟨m2, v :: vs, rfl, e2, f3.tr e3, by simp only [List.cons_append, List.length_cons]; omega, fun z => ⟨(f4 z).symm, by rw [dp, if_pos (by omega), if_pos hv21]; rfl, by rw [List.length_cons]; omega⟩⟩
  · have hso : so = 2 := by
      unfold badB at hbad
      rw [hqs] at hbad
      simp [w] at hbad
      exact hbad
    obtain ⟨x1, x2⟩ := hx3 (by omega)
    obtain ⟨y, hy⟩ := lt_get x2
    have hl1 := cv_le h.1 he 1 (by omega)
    have hz1 : G.2.2 (pl + 4 + 12 * e + 1 + 1) = 12 := hl1.2
    rw [w, if_neg (by decide), if_neg (by decide), if_neg (by decide), if_pos (by decide), x1, bd_e (cv_hasC h.1 hE x2), if_pos rfl, nb_e hl1.1, hz1, ib_n (by omega) (by omega), nI_clamp (by omega), show pl + 4 + 12 * e + 1 + 1 = pl + 4 + 12 * e + 2 by omega, ((h.1.2.2.2.2.2.2 e E hE).2.1.2.2.2.2.2.2.1 c y hy).2.1]
    exact putv _ (by omega) (by unfold xop; rw [if_neg (by omega), if_neg (by omega), if_neg (by omega), if_pos w]; unfold arg; rw [hy])
  · have hso : so = 0 := by
      unfold badB at hbad
      rw [hqs] at hbad
      simp [w] at hbad
      exact hbad
    obtain ⟨x1, x2⟩ := hx3 (by omega)
    have hl9 := cv_le h.1 he 9 (by omega)
    have hz9 : G.2.2 (pl + 4 + 12 * e + 1 + 9) = 12 := hl9.2
    rw [w, if_neg (by decide), if_neg (by decide), if_neg (by decide), if_neg (by decide), if_pos (by decide), x1, bd_e (cv_hasC h.1 hE x2), if_pos rfl, nb_e hl9.1, hz9, ib_n (by omega) (by omega), nI_clamp (by omega), show pl + 4 + 12 * e + 1 + 9 = pl + 4 + 12 * e + 10 by omega, (h.2.1 e E hE).2.2.1 c x2]
    exact putv _ (by omega) (by unfold xop; rw [if_neg (by omega), if_neg (by omega), if_neg (by omega), if_neg (by omega), if_pos w])
  · have hso : so ≠ 1 := by
      unfold badB at hbad
      rw [hqs] at hbad
      simp [w] at hbad
      exact hbad
    obtain ⟨x1, x2⟩ := hx3 hso
    rw [w, if_neg (by decide), if_neg (by decide), if_neg (by decide), if_neg (by decide), if_neg (by decide), if_pos (by decide), x1]
    exact putv _ (by omega) (by unfold xop; rw [if_neg (by omega), if_neg (by omega), if_neg (by omega), if_neg (by omega), if_neg (by omega), if_pos w])
  · rw [dp, if_neg (by omega), if_pos w] at hdp
    have hv1 : 1 ≤ vs.length := by
      by_cases z : 1 ≤ vs.length
      · exact z
      · rw [if_neg z] at hdp
        cases hdp
    have ex : xop W B P e E c q vs g = (0, xng vs, g) := by unfold xop; rw [if_neg (by omega), if_neg (by omega), if_neg (by omega), if_neg (by omega), if_neg (by omega), if_neg (by omega), if_pos w]
    rw [w, if_neg (by decide), if_neg (by decide), if_neg (by decide), if_neg (by decide), if_neg (by decide), if_neg (by decide), if_pos (by decide), ex]
    cases vs with
    | nil => simp at hv1
    | cons x l =>
      simp only [List.length_cons] at hv hlen hv1
      obtain ⟨m1, e1, e2, e3⟩ := cr_pop (st := l ++ ss) hN hT h (by rw [List.length_append]; omega)
      obtain ⟨m2, f1, f2, f3⟩ := cr_push (v := -x) hN hT e2 (by rw [List.length_append]; omega)
      rw [bd_e e1, bd_e f1]
      refine ⟨m2, (-x) :: l, rfl, f2, e3.tr f3, by simp only [List.cons_append, List.length_cons, List.length_append]; omega, fun _ => ⟨rfl, by rw [dp, if_neg (by omega), if_pos w, if_pos (show 1 ≤ (x :: l).length by simp)]; rfl, by rw [List.length_cons]; omega⟩⟩
  · rw [dp, if_neg (by omega), if_neg (by omega)] at hdp
    have hv2 : 2 ≤ vs.length := by
      by_cases z : 2 ≤ vs.length
      · exact z
      · rw [if_neg z] at hdp
        cases hdp
    have ex : xop W B P e E c q vs g = xjn q.1.1 vs g := by unfold xop; rw [if_neg (by omega), if_neg (by omega), if_neg (by omega), if_neg (by omega), if_neg (by omega), if_neg (by omega), if_neg (by omega)]
    rw [if_neg (kne (v := 1) (b := 1) rfl (by omega) (by omega) (by omega)), if_neg (kne (v := 2) (b := 2) rfl (by omega) (by omega) (by omega)), if_neg (kne (v := 3) (b := 3) rfl (by omega) (by omega) (by omega)), if_neg (kne (v := 4) (b := 4) rfl (by omega) (by omega) (by omega)), if_neg (kne (v := 5) (b := 5) rfl (by omega) (by omega) (by omega)), if_neg (kne (v := 6) (b := 6) rfl (by omega) (by omega) (by omega)), if_neg (kne (v := 7) (b := 7) rfl (by omega) (by omega) (by omega)), ex]
    cases vs with
    | nil => simp at hv2
    | cons y l =>
      cases l with
      | nil => simp at hv2
      | cons x l =>
        simp only [List.length_cons] at hv hlen
        obtain ⟨m1, t, e1, e2, e3, e4, e5, e6⟩ := cr_join (o := q.1.1) hN hT h (by rw [List.length_append]; simp only [List.length_cons]; omega) ⟨w, o2⟩
        rw [bd_e e1, e6]
        refine ⟨m1, t, rfl, e2, e3, e4, fun z => ⟨e5 z, ?_, ?_⟩⟩
        · rw [dp, if_neg (by omega), if_neg (by omega), if_pos hv2, e5 z]
          rw [xjn_eq] at z ⊢
          by_cases u : q.1.1 = 11 ∧ y = 0
          · rw [if_pos u] at z
            cases z
          · rw [if_neg u]
            simp [dp]
        · rw [e5 z]
          rw [xjn_eq] at z ⊢
          by_cases u : q.1.1 = 11 ∧ y = 0
          · rw [if_pos u] at z
            cases z
          · rw [if_neg u]
            simp only [List.length_cons]
            omega
/-- the end of an exp -/
theorem cr_59 {G : GG} {m : MM} {n pl tl len : Nat} {B : Nat → Int32} {P : List Enm} {K : List Ko} {gc : Nat → Nat → Nat → Int32} {fw : Nat → Int32 → Int32 → MM → Option (Bool × MM)} {g : Sg} {k : Nat} {t ss : List Int32} (hN : PN n pl) (hT : TT n tl) (h : CX G m n pl tl len B P K gc g k (t ++ ss)) (hl : (t ++ ss).length ≤ 189) : ∃ v m1, B_X7_work_59 G fw (n + 210) (nI ss.length) m = some (v, m1) ∧ CX G m1 n pl tl len B P K gc g k ss ∧ OX m m1 n pl ∧ v = xhd t := by
  unfold B_X7_work_59
  rw [h.2.2.2.2.2.1]
  cases t with
  | nil =>
    rw [List.nil_append] at h hl ⊢
    rw [if_pos ((nI_leI (by omega) (by omega)).mpr (Nat.le_refl _))]
    exact ⟨0, _, rfl, (h.fld hN hT).2 [] ss rfl, OX.r hN (Or.inl rfl), rfl⟩
  | cons x l =>
    have hl2 : (l ++ ss).length + 1 ≤ 189 := by simpa using hl
    have hl3 : (l ++ ss).length = l.length + ss.length := List.length_append
    rw [if_neg (fun z => absurd ((nI_leI (by omega) (by omega)).mp z) (by simp only [List.cons_append, List.length_cons]; omega))]
    obtain ⟨m1, e1, e2, e3⟩ := cr_pop (st := l ++ ss) hN hT h (by omega)
    rw [bd_e e1]
    exact ⟨x, _, rfl, (e2.fld hN hT).2 l ss rfl, e3.tr (OX.r hN (Or.inl rfl)), rfl⟩
theorem cr_loop {G : GG} {n pl tl len : Nat} {B : Nat → Int32} {P : List Enm} {K : List Ko} {gc : Nat → Nat → Nat → Int32} {D dd e so c c0 : Nat} {x3 : Int32} {fw : Nat → Int32 → Int32 → MM → Option (Bool × MM)} {W : Nat → Sg → Nat × Sg} {E : Enm} {ss : List Int32} (hN : PN n pl) (hT : TT n tl) (hfw : HC G n pl tl len B P K gc D dd fw W) (hW : HW P W) (hE : P[e]? = some E) (hok : ∀ q ∈ aK K, okQ B P q) (hk6 : HK W) (hx3 : so ≠ 1 → x3 = nI c ∧ c < E.2.1.length) (hss : ss.length ≤ 21 * dd) (hd8 : dd ≤ 8) (hKl : K.length ≤ 2000) : ∀ (ops : List Op) (fu a : Nat) (vs : List Int32) (g : Sg) (m : MM), (∃ z post, K.drop a = ops.map (kox e so c0) ++ z :: post ∧ z.1.1 = 0) → (∀ o ∈ ops, opB o) → dp vs.length ops = some 1 → vs.length ≤ 21 → ops.length + 1 < fu → CX G m n pl tl len B P K gc g 0 (vs ++ ss) → ISg P g → zc g < D → dd + zc g ≤ 8 → ∃ v m1, B_X7_work_9 G fw fu (n + 210) (pl + 4 + 12 * e) x3 (nI dd) (nI ss.length) (nI a) m = some (v, m1) ∧ CX G m1 n pl tl len B P K gc (xrun W B P e E c (ops.map (kox e so c0)) vs g).2.2 (xrun W B P e E c (ops.map (kox e so c0)) vs g).1 ss ∧ OX m m1 n pl ∧ ((xrun W B P e E c (ops.map (kox e so c0)) vs g).1 = 0 → v = xhd (xrun W B P e E c (ops.map (kox e so c0)) vs g).2.1) := by
  intro ops
  induction ops with
  | nil =>
    intro fu a vs g m hK hob hdp hv hfu h hI hz hd
    obtain ⟨z, post, hK, z0⟩ := hK
    cases fu with
    | zero => omega
    | succ fu =>
    rw [List.map_nil, List.nil_append] at hK
    have hza : K[a]? = some z := by
      have := congrArg (fun l => l[0]?) hK
      simpa using this
    have hal := get_lt hza
    have hcl : gI m pl 4 = nI K.length := by rw [h.1.2.2.2.1.2.2.1, List.length_map]
    have hop : M_X6_opAt G pl (nI a) m = some (nI 0, m) := by
      refine (co_op (a := opa z) h.1.2.2.2.1 ?_ (by omega) ?_).1
      · rw [List.getElem?_map, hza]
        show some (bcd B P z) = _
        unfold bcd
        rw [if_neg (by omega), if_neg (by omega), encK_a, z0]
      · unfold opa
        rw [if_neg (by omega), if_neg (by omega), if_neg (by omega), if_neg (by omega)]
        omega
    rw [B_X7_work_9, nb_e h.2.2.2.1.2.2.1, hcl, if_neg (fun w => absurd ((nI_leI (by omega) (by omega)).mp w) (by omega)), h.2.2.2.2.1, if_pos nI_0, bd_e hop, if_pos nI_0]
    obtain ⟨v, m1, e1, e2, e3, e4⟩ := cr_59 (fw := fw) hN hT h (by rw [List.length_append]; simp [dp] at hdp; omega)
    exact ⟨v, m1, e1, e2, e3, fun _ => e4⟩
  | cons o ops ih =>
    intro fu a vs g m hK hob hdp hv hfu h hI hz hd
    obtain ⟨z, post, hK, z0⟩ := hK
    cases fu with
    | zero => omega
    | succ fu =>
    rw [List.map_cons, List.cons_append] at hK
    have hqa : K[a]? = some (kox e so c0 o) := by
      have := congrArg (fun l => l[0]?) hK
      simpa using this
    have hal := get_lt hqa
    have hob1 := hob o (by simp)
    have hokq : okQ B P (kox e so c0 o) := hok _ (mem_aK (List.mem_of_getElem? hqa) hob1.1 hob1.2.1)
    have hcl : gI m pl 4 = nI K.length := by rw [h.1.2.2.2.1.2.2.1, List.length_map]
    have hop := (h.code hqa hokq).1
    rw [B_X7_work_9, nb_e h.2.2.2.1.2.2.1, hcl, if_neg (fun w => absurd ((nI_leI (by omega) (by omega)).mp w) (by omega)), h.2.2.2.2.1, if_pos nI_0, bd_e hop, if_neg (kne (b := 0) nI_0.symm (by have := hob1.2.1; show o.1 < _; omega) (by omega) (by have := hob1.1; show o.1 ≠ 0; omega))]
    obtain ⟨m1, t, e1, e2, e3, e4, e5⟩ := cr_step (a := a) (x3 := x3) (c := c) (r := ops) hN hT hfw hW hE hqa hokq rfl rfl hx3 ⟨1, hdp⟩ hss hd8 h hI hz hd hv
    rw [bd_e e1, nI_1, List.map_cons, xrun]
    have hgs := xop_gs (B := B) (e := e) (c := c) (E := E) (q := kox e so c0 o) (vs := vs) (g := g) hW
    by_cases k : (xop W B P e E c (kox e so c0 o) vs g).1 = 0
    · rw [if_pos k]
      obtain ⟨k1, k2, k3⟩ := e5 k
      rw [k] at e2
      rw [← k1]
      have hzz := hgs.zc
      have hdp2 : dp t.length ops = some 1 := by
        have : dp vs.length ([o] ++ ops) = some 1 := hdp
        rw [dp_app] at this
        have k2 : dp vs.length [o] = some t.length := k2
        rw [k2] at this
        exact this
      obtain ⟨v, m2, f1, f2, f3, f4⟩ := ih fu (a + 1) t _ m1 ⟨z, post, by rw [← List.drop_drop, hK]; rfl, z0⟩ (fun x hx => hob x (by simp [hx])) hdp2 k3 (by simp only [List.length_cons] at hfu; omega) e2 (hgs.2 hI) (by omega) (by omega)
      exact ⟨v, m2, f1, f2, e3.tr f3, f4⟩
    · rw [if_neg k]
      -- it has failed: the loop ends
      have hk7 := xop_k (B := B) (P := P) (e := e) (c := c) (E := E) (q := kox e so c0 o) (vs := vs) (g := g) hk6
      obtain ⟨v, m2, f1, f2, f3, f4⟩ := cr_59 (fw := fw) hN hT e2 e4
      cases fu with
      | zero => simp at hfu
      | succ fu =>
      have hcl1 : gI m1 pl 4 = nI K.length := by rw [e2.1.2.2.2.1.2.2.1, List.length_map]
      have : B_X7_work_9 G fw (fu + 1) (n + 210) (pl + 4 + 12 * e) x3 (nI dd) (nI ss.length) (nI (a + 1)) m1 = B_X7_work_59 G fw (n + 210) (nI ss.length) m1 := by
        rw [B_X7_work_9, nb_e e2.2.2.2.1.2.2.1]
        by_cases u : gI m1 pl 4 ≤ nI (a + 1)
        · rw [if_pos u]
        · rw [if_neg u, e2.2.2.2.2.1, if_neg ?_]
          intro w
          exact k ((nI_eq (by omega) (by omega)).mp (w.trans nI_0.symm))
      rw [this]
      exact ⟨v, m2, f1, f2, e3.tr f3, fun w => absurd w k⟩
