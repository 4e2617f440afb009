/-! ===== L2: the reference's run: one act ===== -/
theorem mr_field {G : GG} {m : MM} {d tt e c a b f k : Nat} {s0 : Int32} {B : Nat → Int32} {K : List Ko} {P : List Enm} {E : Enm} {y : Mem} {g : Sg} {fr : List Fr} {st : List Int32} {ca : Nat} {fc : Int32} (hP : PB P) (hK : (aK K).length ≤ 2000) (h : RC G m d tt B K P g ((e, c, some (a, b)) :: fr) st ca fc) (hE : P[e]? = some E) (hy : (fls E.2.2)[f]? = some y) (hl : fr.length < 30) (hs : st.length < 2100) (hk : k < 4200) (h32 : gI m (d + 32) k = nI f) (hc0 : s0 = 0 → y.1 = 7 → g.2.2.2.1 e f = 0) (hc1 : s0 ≠ 0 → y.1 = 7 → gI m (d + 44) (6 * e + f) = g.2.2.2.1 e f) : ∃ m1, B_X11_doAct_151 G d (nI fr.length) (nI k) (nI e) (nI (6 * (8 * tt + e) + f)) s0 m = some ((), m1) ∧ RC G m1 d tt B K P g ((e, c, some (a + 1, b)) :: fr) (fvl E g e f :: st) ca fc ∧ OMr m m1 d := by
  obtain ⟨b1, b2, b3, b4, b5, b6, b7⟩ := pb_en hP hE
  have hfl := get_lt hy
  have hL := h.1.1
  have htt := h.1.2.2.1
  obtain ⟨n1, n2, n3⟩ := h.num hE
  obtain ⟨k1, k2, k3, k4⟩ := n3.2.2.2.2.1.2 f y hy
  obtain ⟨y1, y2⟩ := List.mem_filter.mp (List.mem_of_getElem? hy)
  simp only [Bool.or_eq_true, decide_eq_true_eq] at y2
  have ev : fvl E g e f = if y.1 = 8 then nI y.2.2.1 else g.2.2.2.1 e f := by unfold fvl; rw [hy]
  unfold B_X11_doAct_151
  rw [nb_e (mr_25 hL), mz_25 hL, ib_n (by omega) (by omega), nI_clamp (n := 6 * (8 * tt + e) + f) (by omega)]
  by_cases y8 : y.1 = 8
  · obtain ⟨q1, q2⟩ := k3 y8
    rw [q1, if_neg (by decide), nb_e (mr_24 hL), mz_24 hL, ib_n (by omega) (by omega), q2, ev, if_pos y8]
    exact mr_put h hl hs
  · obtain ⟨s, q1, q2, q3⟩ := k4 (by omega)
    have hct : ct K y.2.2.2 ≤ (aK K).length := by
      unfold ct aK
      exact List.Sublist.length_le ((List.take_sublist _ _).filter _)
    rw [q2, if_pos (nI_pos' (by omega)), ev, if_neg y8]
    by_cases z : s0 = 0
    · rw [if_pos z, hc0 z (by omega)]
      exact mr_put h hl hs
    · rw [if_neg z, nb_e (mr_58 hL), nb_e (mr_35 hL), mz_35 hL, ib_n (by omega) (by omega), nI_clamp (n := k) (by omega), h32, show (6 : Int32) = nI 6 from rfl, pk_mul, nI_add, mz_58 hL, ib_n (by omega) (by omega), nI_clamp (n := 6 * e + f) (by omega), hc1 z (by omega)]
      exact mr_put h hl hs
theorem mr_act {G : GG} {m : MM} {d tt e c a b so : Nat} {B : Nat → Int32} {K : List Ko} {P : List Enm} {E : Enm} {W : Nat → Sg → Nat × Sg} {q : Ko} {r : List Op} {g : Sg} {fr : List Fr} {vs ss : List Int32} {fc : Int32} (hP : PB P) (hK : (aK K).length ≤ 2000) (hE : P[e]? = some E) (hq : (aK K)[a]? = some q) (hok : okQ B P q) (hqe : q.2.1 = e) (hqs : q.2.2.1 = so) (h3 : q.1.1 ≠ 3) (hst : g.1 e = 3 ∨ g.1 e = 1) (hs0 : so = 0 → g.1 e = 1) (hcc : so ≠ 1 → c < E.2.1.length) (hI : ISg P g) (hdp : ∃ k, dp vs.length (q.1 :: r) = some k) (h : RC G m d tt B K P g ((e, c, some (a, b)) :: fr) (vs ++ ss) 0 fc) (hf : FOK P ((e, c, some (a, b)) :: fr)) (hl : fr.length < 30) (hs : (vs ++ ss).length < 1000) : ∃ m1, M_X11_doAct G d (nI fr.length) (nI (2100 * tt + a)) m = some ((), m1) ∧ OMr m m1 d ∧ ((xop W B P e E c q vs g).1 = 0 → RC G m1 d tt B K P (xop W B P e E c q vs g).2.2 ((e, c, some (a + 1, b)) :: fr) ((xop W B P e E c q vs g).2.1 ++ ss) 0 fc) ∧ ((xop W B P e E c q vs g).1 ≠ 0 → RC G m1 d tt B K P (unw (ens fr) (xop W B P e E c q vs g).2.2) [] [] (xop W B P e E c q vs g).1 (fc + 1)) := by
  obtain ⟨b1, b2, b3, b4, b5, b6, b7⟩ := pb_en hP hE
  have hbad := hok.2.2.2.2.2.1
  have hL := h.1.1
  have htt := h.1.2.2.1
  have hal := get_lt hq
  obtain ⟨q1, q2, q3, q4, q5, q6, q7⟩ := h.1.2.2.2.2.2.1.2 a q hq
  obtain ⟨ab1, ab2⟩ := h.1.2.2.2.2.2.2 a q hq
  obtain ⟨⟨f1, f2, f3⟩, f4⟩ := h.2.2.2.1.2
  obtain ⟨n1, n2, n3⟩ := h.num hE
  have hlen : (vs ++ ss).length = vs.length + ss.length := List.length_append
  have cl : (nI fr.length).toNatClampNeg = fr.length := nI_clamp (by omega)
  have cl2 : (nI (2100 * tt + a)).toNatClampNeg = 2100 * tt + a := nI_clamp (by omega)
  have f1 : gI m (d + 47) (nI fr.length).toNatClampNeg = nI e := by rw [cl]; exact f1
  have f2 : gI m (d + 48) (nI fr.length).toNatClampNeg = nI c := by rw [cl]; exact f2
  have q1' : gI m (d + 31) (nI (2100 * tt + a)).toNatClampNeg = nI (acd q.1.1) := by rw [cl2]; exact q1
  unfold M_X11_doAct
  rw [nb_e (mr_65 hL), mz_65 hL, ib_n hl (by omega), nb_e (mr_34 hL), mz_34 hL, ib_n (by omega) (by omega), q1']
  obtain ⟨kd, hdp⟩ := hdp
  have o1 := hok.1
  have o2 := hok.2.1
  -- a value is put
  have putv : ∀ v, xop W B P e E c q vs g = (0, v :: vs, g) → ∀ {X : Option (Unit × MM)}, (∃ m1, X = some ((), m1) ∧ RC G m1 d tt B K P g ((e, c, some (a + 1, b)) :: fr) (v :: (vs ++ ss)) 0 fc ∧ OMr m m1 d) → ∃ m1, X = some ((), m1) ∧ OMr m m1 d ∧ ((xop W B P e E c q vs g).1 = 0 → RC G m1 d tt B K P (xop W B P e E c q vs g).2.2 ((e, c, some (a + 1, b)) :: fr) ((xop W B P e E c q vs g).2.1 ++ ss) 0 fc) ∧ ((xop W B P e E c q vs g).1 ≠ 0 → RC G m1 d tt B K P (unw (ens fr) (xop W B P e E c q vs g).2.2) [] [] (xop W B P e E c q vs g).1 (fc + 1)) := fun v hx X hX => by
    obtain ⟨m1, e1, e2, e3⟩ := hX
    rw [hx]
    exact ⟨m1, e1, e3, fun _ => e2, fun z => absurd rfl z⟩
  rcases (show q.1.1 = 1 ∨ q.1.1 = 2 ∨ q.1.1 = 4 ∨ q.1.1 = 5 ∨ q.1.1 = 6 ∨ q.1.1 = 7 ∨ 8 ≤ q.1.1 by omega) with w | w | w | w | w | w | w
  · rw [w, if_pos (by decide), nb_e (mr_35 hL), mz_35 hL, ib_n (by omega) (by omega), cl2, q2 w]
    exact putv _ (by unfold xop; rw [if_pos w]) (mr_put h hl (by omega))
  · obtain ⟨E', hE', hfl, hfn⟩ := hok.2.2.2.1 w
    rw [hqe, hE] at hE'
    cases hE'
    obtain ⟨E', hE', h32⟩ := ab1 w
    rw [hqe, hE] at hE'
    cases hE'
    obtain ⟨y, hy⟩ := lt_get hfl
    have h32 : gI m (d + 32) (2100 * tt + a) = nI (rfd B E q) := by
      rw [h32, hfn]
      rfl
    rw [w, if_neg (by decide), if_pos (by decide), nb_e (mr_35 hL), mz_35 hL, ib_n (by omega) (by omega), nb_e (mr_56 hL), mz_56 hL, f1, ib_n (by omega) (by omega), nI_clamp (n := e) (by omega), (h.2.1 e E hE).1, cl2, h32, h.1.2.1, show (8 : Int32) = nI 8 from rfl, pk_mul, nI_add, show (6 : Int32) = nI 6 from rfl, pk_mul, nI_add]
    refine putv (fvl E g e (rfd B E q)) (by unfold xop; rw [if_neg (by omega), if_pos w]) ?_
    rcases hst with s3 | s1
    · rw [s3, if_pos (show nI 3 = 3 from rfl), nb_e (mr_59 hL), mz_59 hL, ib_n (by omega) (by omega), nb_e (mr_9 hL), mz_9 hL, ib_n (by omega) (by omega), ib_n (by omega) (by omega), nI_clamp (n := 8 * tt + e) (by omega), (h.2.1 e E hE).2.1 s3, n1, nI_add]
      have hfar := (hI e E hE).2.1
      by_cases z : g.2.1 e ≤ E.2.1.length + rfd B E q
      · rw [if_pos ((nI_leI (by omega) (by omega)).mpr z)]
        exact mr_field hP hK h hE hy hl (by omega) (by omega) h32 (fun _ _ => (hI e E hE).2.2.2.2 s3 _ z) (fun u => absurd rfl u)
      · rw [if_neg (fun u => z ((nI_leI (by omega) (by omega)).mp u))]
        exact mr_field hP hK h hE hy hl (by omega) (by omega) h32 (fun u => absurd u (by decide)) (fun _ h7 => (h.2.1 e E hE).2.2.2 _ y hy h7 (Or.inr ⟨s3, by omega⟩))
    · rw [s1, if_neg (show ¬ nI 1 = 3 by decide)]
      exact mr_field hP hK h hE hy hl (by omega) (by omega) h32 (fun u => absurd u (by decide)) (fun _ h7 => (h.2.1 e E hE).2.2.2 _ y hy h7 (Or.inl s1))
  · have hso : so = 2 := by
      unfold badB at hbad
      rw [hqs] at hbad
      simp [w] at hbad
      exact hbad
    have hc := hcc (by omega)
    obtain ⟨y, hy⟩ := lt_get hc
    rw [w, if_neg (by decide), if_neg (by decide), if_neg (by decide), if_pos (by decide), nb_e (mr_16 hL), nb_e (mr_66 hL), mz_66 hL, ib_n hl (by omega), f1, f2, h.1.2.1, show (8 : Int32) = nI 8 from rfl, pk_mul, nI_add, show (12 : Int32) = nI 12 from rfl, pk_mul, nI_add, mz_16 hL, ib_n (by omega) (by omega), nI_clamp (n := 12 * (8 * tt + e) + c) (by omega), (n3.2.2.1.2 c y hy).2.2.1]
    exact putv _ (by unfold xop; rw [if_neg (by omega), if_neg (by omega), if_neg (by omega), if_pos w]; unfold arg; rw [hy]) (mr_put h hl (by omega))
  · have hso : so = 0 := by
      unfold badB at hbad
      rw [hqs] at hbad
      simp [w] at hbad
      exact hbad
    have hc := hcc (by omega)
    rw [w, if_neg (by decide), if_neg (by decide), if_neg (by decide), if_neg (by decide), if_pos (by decide), nb_e (mr_57 hL), nb_e (mr_66 hL), mz_66 hL, ib_n hl (by omega), f1, f2, show (12 : Int32) = nI 12 from rfl, pk_mul, nI_add, mz_57 hL, ib_n (by omega) (by omega), nI_clamp (n := 12 * e + c) (by omega), (h.2.1 e E hE).2.2.1 c hc (Or.inl (hs0 hso))]
    exact putv _ (by unfold xop; rw [if_neg (by omega), if_neg (by omega), if_neg (by omega), if_neg (by omega), if_pos w]) (mr_put h hl (by omega))
  · rw [w, if_neg (by decide), if_neg (by decide), if_neg (by decide), if_neg (by decide), if_neg (by decide), if_pos (by decide), nb_e (mr_66 hL), mz_66 hL, ib_n hl (by omega), f2]
    exact putv _ (by unfold xop; rw [if_neg (by omega), if_neg (by omega), if_neg (by omega), if_neg (by omega), if_neg (by omega), if_pos w]) (mr_put h hl (by omega))
  · rw [dp, if_neg (by omega), if_pos w] at hdp
    have hv1 : 1 ≤ vs.length := by
      by_cases z : 1 ≤ vs.length
      · exact z
      · rw [if_neg z] at hdp
        cases hdp
    have ex : xop W B P e E c q vs g = (0, xng vs, g) := by unfold xop; rw [if_neg (by omega), if_neg (by omega), if_neg (by omega), if_neg (by omega), if_neg (by omega), if_neg (by omega), if_pos w]
    rw [w, if_neg (by decide), if_neg (by decide), if_neg (by decide), if_neg (by decide), if_neg (by decide), if_neg (by decide), if_neg (by decide), if_neg (by decide), if_neg (by decide), if_neg (by decide), if_pos (by decide), ex]
    cases vs with
    | nil => simp at hv1
    | cons x l =>
      have h70 := h.2.2.2.2.1.1
      simp only [List.cons_append, List.length_cons] at h70 hs
      have sx : gI m (d + 51) (l ++ ss).length = x := h.2.2.2.2.1.2.1
      obtain ⟨t1, t2⟩ := RC.top (v := -x) h
      obtain ⟨g1, g2, g3⟩ := t1.adv hl
      rw [h70, nI_pred, nb_e (mr_69 hL), mz_69 hL, ib_n (by omega) (by omega), ib_n (by omega) (by omega), nI_clamp (n := (l ++ ss).length) (by omega), sx]
      exact ⟨_, g1, t2.tr g3, fun _ => g2, fun z => absurd rfl z⟩
  · rw [dp, if_neg (by omega), if_neg (by omega)] at hdp
    have hv2 : 2 ≤ vs.length := by
      by_cases z : 2 ≤ vs.length
      · exact z
      · rw [if_neg z] at hdp
        cases hdp
    have ex : xop W B P e E c q vs g = xjn q.1.1 vs g := by unfold xop; rw [if_neg (by omega), if_neg (by omega), if_neg (by omega), if_neg (by omega), if_neg (by omega), if_neg (by omega), if_neg (by omega)]
    cases vs with
    | nil => simp at hv2
    | cons y l =>
      cases l with
      | nil => simp at hv2
      | cons x l =>
        simp only [List.cons_append, List.length_cons] at hs
        obtain ⟨m1, e1, e2, e3, e4⟩ := mr_join (k := 2100 * tt + a) (o := q.1.1) (l := l ++ ss) hP h hf hl (by omega) (by omega) q1 ⟨w, o2⟩
        rw [ex, xjn_eq]
        have fin1 : ∃ m1, JB G d (nI fr.length) (nI (2100 * tt + a)) m = some ((), m1) ∧ OMr m m1 d ∧ ((if q.1.1 = 11 ∧ y = 0 then (2, l, g) else (0, jn q.1.1 x y :: l, g) : Nat × List Int32 × Sg).1 = 0 → RC G m1 d tt B K P (if q.1.1 = 11 ∧ y = 0 then (2, l, g) else (0, jn q.1.1 x y :: l, g) : Nat × List Int32 × Sg).2.2 ((e, c, some (a + 1, b)) :: fr) ((if q.1.1 = 11 ∧ y = 0 then (2, l, g) else (0, jn q.1.1 x y :: l, g) : Nat × List Int32 × Sg).2.1 ++ ss) 0 fc) ∧ ((if q.1.1 = 11 ∧ y = 0 then (2, l, g) else (0, jn q.1.1 x y :: l, g) : Nat × List Int32 × Sg).1 ≠ 0 → RC G m1 d tt B K P (unw (ens fr) (if q.1.1 = 11 ∧ y = 0 then (2, l, g) else (0, jn q.1.1 x y :: l, g) : Nat × List Int32 × Sg).2.2) [] [] (if q.1.1 = 11 ∧ y = 0 then (2, l, g) else (0, jn q.1.1 x y :: l, g) : Nat × List Int32 × Sg).1 (fc + 1)) := by
          refine ⟨m1, e1, e2, ?_⟩
          by_cases u : q.1.1 = 11 ∧ y = 0
          · rw [if_pos u]
            exact ⟨fun z => absurd (show (2 : Nat) = 0 from z) (by decide), fun _ => e4 u⟩
          · rw [if_neg u]
            exact ⟨fun _ => e3 u, fun z => absurd rfl z⟩
        rcases (show q.1.1 = 8 ∨ q.1.1 = 9 ∨ q.1.1 = 10 ∨ q.1.1 = 11 by omega) with z | z | z | z
        · rw [show nI (acd q.1.1) = 7 by rw [z]; rfl, if_neg (by decide), if_neg (by decide), if_neg (by decide), if_neg (by decide), if_neg (by decide), if_neg (by decide), if_pos (by decide)]
          exact fin1
        · rw [show nI (acd q.1.1) = 8 by rw [z]; rfl, if_neg (by decide), if_neg (by decide), if_neg (by decide), if_neg (by decide), if_neg (by decide), if_neg (by decide), if_neg (by decide), if_pos (by decide)]
          exact fin1
        · rw [show nI (acd q.1.1) = 9 by rw [z]; rfl, if_neg (by decide), if_neg (by decide), if_neg (by decide), if_neg (by decide), if_neg (by decide), if_neg (by decide), if_neg (by decide), if_neg (by decide), if_pos (by decide)]
          exact fin1
        · rw [show nI (acd q.1.1) = 10 by rw [z]; rfl, if_neg (by decide), if_neg (by decide), if_neg (by decide), if_neg (by decide), if_neg (by decide), if_neg (by decide), if_neg (by decide), if_neg (by decide), if_neg (by decide), if_pos (by decide)]
          exact fin1
