/-! ===== L2: the reference's run: its loop, constants wanted, exps ===== -/
theorem SG.act {K : List Ko} {a : Nat} {s : List Ko} (h : SG K a s) : (∀ i q, s[i]? = some q → (aK K)[ct K a + i]? = some q) ∧ ct K a + s.length ≤ (aK K).length := by
  obtain ⟨pre, post, st, h1, h2, h3, h4⟩ := h
  have e1 : ct K a = (aK pre).length := by
    unfold ct
    rw [h1, List.append_assoc, ← h2, List.take_left]
  have e2 : aK s = s := by
    unfold aK
    rw [List.filter_eq_self]
    intro q hq
    obtain ⟨o1, o2, -⟩ := h4 q hq
    unfold isA
    rw [Bool.and_eq_true, decide_eq_true_iff, decide_eq_true_iff]
    exact ⟨o1, o2⟩
  have e3 : aK K = aK pre ++ s ++ aK (st :: post) := by rw [h1, aK_app, aK_app, e2]
  rw [e1, e3]
  refine ⟨fun i q hq => ?_, by simp only [List.length_append]; omega⟩
  rw [List.append_assoc, List.getElem?_append_right (by omega), Nat.add_sub_cancel_left, List.getElem?_append_left (get_lt hq)]
  exact hq
/-- the loop goes on so many rounds -/
def Go (G : GG) (d : Nat) (m m1 : MM) (j : Nat) : Prop := ∀ fu, B_X11_work_0 G (fu + j) d m = B_X11_work_0 G fu d m1
theorem Go.tr {G : GG} {d j k : Nat} {m m1 m2 : MM} (h : Go G d m m1 j) (h2 : Go G d m1 m2 k) : Go G d m m2 (k + j) := fun fu => by rw [← Nat.add_assoc, h (fu + k), h2 fu]
theorem Go.rf {G : GG} {d : Nat} {m : MM} : Go G d m m 0 := fun _ => rfl
theorem wk_act {G : GG} {m m1 : MM} {d tt e c a b : Nat} {B : Nat → Int32} {K : List Ko} {P : List Enm} {g : Sg} {fr : List Fr} {st : List Int32} {ca : Nat} {fc : Int32} (h : RC G m d tt B K P g ((e, c, some (a, b)) :: fr) st ca fc) (hl : fr.length < 30) (hab : a < b) (hb : b < 3000) (ha : M_X11_doAct G d (nI fr.length) (nI (2100 * tt + a)) m = some ((), m1)) : Go G d m m1 1 := fun fu => by
  have hL := h.1.1
  have h64 := h.2.2.2.1.1
  rw [List.length_cons] at h64
  obtain ⟨⟨f1, f2, f3⟩, f4⟩ := h.2.2.2.1.2
  dsimp only at f3
  rw [B_X11_work_0, h64, if_neg (nI_nle (by omega) (by omega)), nI_pred, nb_e (mr_67 hL), mz_67 hL, ib_n hl (by omega), nI_clamp (n := fr.length) (by omega), f3.1, if_pos (nI_pos' (by omega)), ib_n hl (by omega), nb_e (mr_68 hL), mz_68 hL, ib_n hl (by omega), f3.2, if_neg (fun z => absurd ((nI_leI (by omega) (by omega)).mp z) (by omega)), ib_n hl (by omega), h.1.2.1, show (2100 : Int32) = nI 2100 from rfl, pk_mul, nI_add, bd_e ha]
theorem wk_go {G : GG} {m m1 : MM} {d tt e c : Nat} {B : Nat → Int32} {K : List Ko} {P : List Enm} {g : Sg} {fr : List Fr} {st : List Int32} {ca : Nat} {fc : Int32} (h : RC G m d tt B K P g ((e, c, none) :: fr) st ca fc) (hl : fr.length < 30) (ha : M_X11_goOn G d (nI e) m = some ((), m1)) : Go G d m m1 1 := fun fu => by
  have hL := h.1.1
  have h64 := h.2.2.2.1.1
  rw [List.length_cons] at h64
  obtain ⟨⟨f1, f2, f3⟩, f4⟩ := h.2.2.2.1.2
  dsimp only at f3 f1
  rw [B_X11_work_0, h64, if_neg (nI_nle (by omega) (by omega)), nI_pred, nb_e (mr_67 hL), mz_67 hL, ib_n hl (by omega), nI_clamp (n := fr.length) (by omega), f3, if_neg (by decide), nb_e (mr_65 hL), mz_65 hL, ib_n hl (by omega), f1, bd_e ha]
theorem wk_end {G : GG} {m : MM} {d tt e c b : Nat} {B : Nat → Int32} {K : List Ko} {P : List Enm} {g : Sg} {f : Fr} {fr : List Fr} {st : List Int32} {ca : Nat} {fc v : Int32} (h : RC G m d tt B K P g ((e, c, some (b, b)) :: f :: fr) (v :: st) ca fc) (hl : fr.length < 29) (hb : b < 3000) (hs : st.length < 2000) : ∃ m1, RC G m1 d tt B K P g (f :: fr) st ca fc ∧ OMr m m1 d ∧ ∀ m2, M_X11_made G d (nI f.1) v m1 = some ((), m2) → Go G d m m2 1 := by
  have hL := h.1.1
  have h64 := h.2.2.2.1.1
  simp only [List.length_cons] at h64
  have h70 := h.2.2.2.2.1.1
  rw [List.length_cons] at h70
  obtain ⟨⟨f1, f2, f3⟩, ⟨f4, -, -⟩, -⟩ := h.2.2.2.1.2
  obtain ⟨sv, -⟩ := h.2.2.2.2.1.2
  dsimp only at f3
  simp only [List.length_cons] at f3
  obtain ⟨c1, c2⟩ := h.popF
  obtain ⟨c3, c4⟩ := c1.popS (s := [v]) (t := st) rfl
  simp only [List.length_cons] at c1 c2 c3 c4
  refine ⟨_, c3, c2.tr c4, fun m2 hm fu => ?_⟩
  have g64 : gI (sI m d 64 (nI (fr.length + 1))) d 64 = nI (fr.length + 1) := gI_sI_eq
  have g70 : gI (sI m d 64 (nI (fr.length + 1))) d 70 = nI (st.length + 1) := by rw [gI_sI_ne (Or.inr (by omega))]; exact h70
  have k64 : gI (sI (sI m d 64 (nI (fr.length + 1))) d 70 (nI st.length)) d 64 = nI (fr.length + 1) := by rw [gI_sI_ne (Or.inr (by omega))]; exact g64
  have k70 : gI (sI (sI m d 64 (nI (fr.length + 1))) d 70 (nI st.length)) d 70 = nI st.length := gI_sI_eq
  have k47 : gI (sI (sI m d 64 (nI (fr.length + 1))) d 70 (nI st.length)) (d + 47) fr.length = nI f.1 := by rw [gI_sI_ne (Or.inl (by omega)), gI_sI_ne (Or.inl (by omega))]; exact f4
  have k51 : gI (sI (sI m d 64 (nI (fr.length + 1))) d 70 (nI st.length)) (d + 51) st.length = v := by rw [gI_sI_ne (Or.inl (by omega)), gI_sI_ne (Or.inl (by omega))]; exact sv
  rw [B_X11_work_0, h64, if_neg (nI_nle (by omega) (by omega)), nI_pred, nb_e (mr_67 hL), mz_67 hL, ib_n (by omega) (by omega), nI_clamp (n := fr.length + 1) (by omega), f3.1, if_pos (nI_pos' (by omega)), ib_n (by omega) (by omega), nb_e (mr_68 hL), mz_68 hL, ib_n (by omega) (by omega), f3.2, if_pos ((nI_leI (by omega) (by omega)).mpr (Nat.le_refl _)), g64, if_neg (nI_nle (by omega) (by omega)), g70, nI_pred, nb_e (mr_65 c3.1.1), k64, nI_pred, mz_65 hL, ib_n (by omega) (by omega), nb_e (mr_69 c3.1.1), k70, mz_69 hL, ib_n (by omega) (by omega), nI_clamp (n := fr.length) (by omega), nI_clamp (n := st.length) (by omega), k47, k51, bd_e hm]
theorem wk_end0 {G : GG} {m : MM} {d tt e c b : Nat} {B : Nat → Int32} {K : List Ko} {P : List Enm} {g : Sg} {st : List Int32} {ca : Nat} {fc : Int32} (h : RC G m d tt B K P g [(e, c, some (b, b))] st ca fc) (hb : b < 3000) : Go G d m (sI m d 64 (nI 0)) 1 := fun fu => by
  have hL := h.1.1
  have h64 := h.2.2.2.1.1
  rw [List.length_cons, List.length_nil] at h64
  obtain ⟨⟨f1, f2, f3⟩, f4⟩ := h.2.2.2.1.2
  dsimp only at f3
  rw [List.length_nil] at f3
  have g64 : gI (sI m d 64 (nI 0)) d 64 = nI 0 := gI_sI_eq
  rw [B_X11_work_0, h64, if_neg (nI_nle (by omega) (by omega)), nI_pred, nb_e (mr_67 hL), mz_67 hL, ib_n (by omega) (by omega), nI_clamp (n := 0) (by omega), f3.1, if_pos (nI_pos' (by omega)), ib_n (by omega) (by omega), nb_e (mr_68 hL), mz_68 hL, ib_n (by omega) (by omega), f3.2, if_pos ((nI_leI (by omega) (by omega)).mpr (Nat.le_refl _)), g64, if_pos (by rw [nI_0]; decide)]
/-- what comes of a piece of a run -/
def RES (G : GG) (d tt : Nat) (B : Nat → Int32) (K : List Ko) (P : List Enm) (m : MM) (g : Sg) (fr : List Fr) (st : List Int32) (fc : Int32) (L k : Nat) (g' : Sg) (en : List Nat) : Prop := ∃ m1 j, Go G d m m1 j ∧ OMr m m1 d ∧ j + 80000 * zc g' ≤ L + 80000 * zc g ∧ (k = 0 → RC G m1 d tt B K P g' fr st 0 fc) ∧ (k ≠ 0 → RC G m1 d tt B K P (unw en g') [] [] k (fc + 1))
/-- what a start must do, in the reference -/
def HR (G : GG) (d tt : Nat) (B : Nat → Int32) (K : List Ko) (P : List Enm) (D dd : Nat) (W : Nat → Sg → Nat × Sg) : Prop := ∀ (e : Nat) (E : Enm) (m : MM) (g : Sg) (fr : List Fr) (st : List Int32) (fc : Int32), P[e]? = some E → g.1 e = 0 → RC G m d tt B K P g fr st 0 fc → ISg P g → FOK P fr → zc g < D → dd + zc g ≤ 8 → fr.length ≤ 2 * dd + 1 → st.length ≤ 21 * (dd + 1) → ∃ m1 m2 j, M_X11_begin G d (nI e) m = some ((), m1) ∧ OMr m m1 d ∧ Go G d m1 m2 j ∧ OMr m1 m2 d ∧ j + 80000 * zc (W e g).2 + 10 ≤ 80000 * zc g ∧ ((W e g).1 = 0 → RC G m2 d tt B K P (W e g).2 fr st 0 fc ∧ (W e g).2.1 e = 1) ∧ ((W e g).1 ≠ 0 → RC G m2 d tt B K P (unw (ens fr) (W e g).2) [] [] (W e g).1 (fc + 1))
theorem mr_const {G : GG} {m : MM} {d tt e c a b : Nat} {B : Nat → Int32} {K : List Ko} {P : List Enm} {q : Ko} {g : Sg} {fr : List Fr} {st : List Int32} {ca : Nat} {fc : Int32} (hP : PB P) (hK : (aK K).length ≤ 2000) (hq : (aK K)[a]? = some q) (hok : okQ B P q) (h3 : q.1.1 = 3) (h : RC G m d tt B K P g ((e, c, some (a, b)) :: fr) st ca fc) (hl : fr.length < 30) : ∃ E', P[(rct B P q).1]? = some E' ∧ (rct B P q).2 < E'.2.1.length ∧ M_X11_doAct G d (nI fr.length) (nI (2100 * tt + a)) m = (if nI (g.1 (rct B P q).1) = 0 then (bd (M_X11_begin G d (nI (rct B P q).1) m) fun _ m_44 => some ((), m_44)) else if nI (g.1 (rct B P q).1) = 2 then (bd (M_X11_fails G d 6 m) fun _ m_42 => some ((), m_42)) else if nI (g.1 (rct B P q).1) = 3 then (if nI (rct B P q).2 < gI m (d + 45) (rct B P q).1 then B_X11_doAct_289 G d (nI fr.length) (nI (2100 * tt + a)) (nI (rct B P q).1) m else (bd (M_X11_fails G d 1 m) fun _ m_40 => some ((), m_40))) else B_X11_doAct_289 G d (nI fr.length) (nI (2100 * tt + a)) (nI (rct B P q).1) m) ∧ gI m (d + 33) (2100 * tt + a) = nI (rct B P q).2 := by
  have hL := h.1.1
  have htt := h.1.2.2.1
  have hal := get_lt hq
  obtain ⟨q1, -⟩ := h.1.2.2.2.2.2.1.2 a q hq
  obtain ⟨ab1, ab2⟩ := h.1.2.2.2.2.2.2 a q hq
  obtain ⟨E', hE', hc', hcs⟩ := hok.2.2.2.2.1 h3
  obtain ⟨g1, g2⟩ := ab2 h3 (rct B P q).1 (rct B P q).2 hcs
  obtain ⟨b1, b2, b3, -⟩ := pb_en hP hE'
  refine ⟨E', hE', hc', ?_, g2⟩
  have cl2 : (nI (2100 * tt + a)).toNatClampNeg = 2100 * tt + a := nI_clamp (by omega)
  unfold M_X11_doAct
  rw [nb_e (mr_65 hL), mz_65 hL, ib_n hl (by omega), nb_e (mr_34 hL), mz_34 hL, ib_n (by omega) (by omega), cl2, q1, h3, if_neg (by decide), if_neg (by decide), if_pos (by decide), nb_e (mr_35 hL), mz_35 hL, ib_n (by omega) (by omega), g1, h.1.2.1, show (8 : Int32) = nI 8 from rfl, pk_mul, pk_sub (by omega), show 8 * tt + (rct B P q).1 - 8 * tt = (rct B P q).1 by omega, nb_e (mr_56 hL), mz_56 hL, ib_n (by omega) (by omega), ib_n (by omega) (by omega), ib_n (by omega) (by omega), nI_clamp (n := (rct B P q).1) (by omega), (h.2.1 _ E' hE').1, nb_e (mr_59 hL), mz_59 hL, ib_n (by omega) (by omega), nb_e (mr_36 hL), mz_36 hL, ib_n (by omega) (by omega), g2]
/-- a constant of an enumeration that has begun -/
theorem mr_const1 {G : GG} {m : MM} {d tt e c a b : Nat} {B : Nat → Int32} {K : List Ko} {P : List Enm} {q : Ko} {g : Sg} {fr : List Fr} {vs ss : List Int32} {fc : Int32} {r : Nat × Sg} (hP : PB P) (hK : (aK K).length ≤ 2000) (hq : (aK K)[a]? = some q) (hok : okQ B P q) (h3 : q.1.1 = 3) (h : RC G m d tt B K P g ((e, c, some (a, b)) :: fr) (vs ++ ss) 0 fc) (hf : FOK P ((e, c, some (a, b)) :: fr)) (hl : fr.length < 29) (hs : (vs ++ ss).length < 1000) (hI : ISg P g) (h0 : g.1 (rct B P q).1 ≠ 0) (hr : r = if g.1 (rct B P q).1 = 2 then (6, g) else (0, g)) : ∃ m1, M_X11_doAct G d (nI fr.length) (nI (2100 * tt + a)) m = some ((), m1) ∧ OMr m m1 d ∧ ((xcn (rct B P q).2 (rct B P q).1 vs r).1 = 0 → RC G m1 d tt B K P g ((e, c, some (a + 1, b)) :: fr) ((xcn (rct B P q).2 (rct B P q).1 vs r).2.1 ++ ss) 0 fc) ∧ ((xcn (rct B P q).2 (rct B P q).1 vs r).1 ≠ 0 → RC G m1 d tt B K P (unw (ens fr) g) [] [] (xcn (rct B P q).2 (rct B P q).1 vs r).1 (fc + 1)) ∧ (xcn (rct B P q).2 (rct B P q).1 vs r).2.2 = g := by
  have hL := h.1.1
  have hal := get_lt hq
  have htt := h.1.2.2.1
  obtain ⟨E', hE', hc', ha, g2⟩ := mr_const hP hK hq hok h3 h (by omega)
  obtain ⟨b1, b2, b3, b4, b5, -⟩ := pb_en hP hE'
  obtain ⟨i1, i2, i3, i4, i5⟩ := hI _ E' hE'
  obtain ⟨s1, s2, s3, s4⟩ := h.2.1 _ E' hE'
  rw [ha, if_neg (kne (v := 0) (b := 0) nI_0.symm (by omega) (by omega) h0)]
  have put : (g.1 (rct B P q).1 = 1 ∨ g.1 (rct B P q).1 = 3 ∧ (rct B P q).2 < g.2.1 (rct B P q).1) → ∃ m1, B_X11_doAct_289 G d (nI fr.length) (nI (2100 * tt + a)) (nI (rct B P q).1) m = some ((), m1) ∧ RC G m1 d tt B K P g ((e, c, some (a + 1, b)) :: fr) (g.2.2.1 (rct B P q).1 (rct B P q).2 :: (vs ++ ss)) 0 fc ∧ OMr m m1 d := fun hz => by
    unfold B_X11_doAct_289
    rw [nb_e (mr_57 hL), nb_e (mr_36 hL), mz_36 hL, ib_n (by omega) (by omega), nI_clamp (n := 2100 * tt + a) (by omega), g2, show (12 : Int32) = nI 12 from rfl, pk_mul, nI_add, mz_57 hL, ib_n (by omega) (by omega), nI_clamp (n := 12 * (rct B P q).1 + (rct B P q).2) (by omega), s3 _ hc' hz]
    exact mr_put h (by omega) (by omega)
  by_cases w2 : g.1 (rct B P q).1 = 2
  · rw [if_pos w2] at hr
    rw [if_pos (by rw [w2]; rfl), hr]
    obtain ⟨m1, e1, e2, e3⟩ := mr_fails (k := 6) hP h hf (by rw [List.length_cons]; omega)
    rw [show (6 : Int32) = nI 6 from rfl, bd_e e1]
    exact ⟨m1, rfl, e3, fun z => absurd (show (6 : Nat) = 0 from z) (by decide), fun _ => e2, rfl⟩
  · rw [if_neg w2] at hr
    rw [if_neg (kne (v := 2) (b := 2) rfl (by omega) (by omega) w2), hr]
    unfold xcn
    rw [if_pos rfl]
    by_cases w3 : g.1 (rct B P q).1 = 3
    · rw [if_pos (by rw [w3]; rfl), s2 w3]
      by_cases z : g.2.1 (rct B P q).1 ≤ (rct B P q).2
      · rw [if_neg (fun u => absurd ((nI_ltI (by omega) (by omega)).mp u) (by omega)), if_pos ⟨w3, z⟩]
        obtain ⟨m1, e1, e2, e3⟩ := mr_fails (k := 1) hP h hf (by rw [List.length_cons]; omega)
        rw [show (1 : Int32) = nI 1 from rfl, bd_e e1]
        exact ⟨m1, rfl, e3, fun z => absurd (show (1 : Nat) = 0 from z) (by decide), fun _ => e2, rfl⟩
      · rw [if_pos ((nI_ltI (by omega) (by omega)).mpr (by omega)), if_neg (fun u => z u.2)]
        obtain ⟨m1, e1, e2, e3⟩ := put (Or.inr ⟨w3, by omega⟩)
        exact ⟨m1, e1, e3, fun _ => e2, fun z => absurd rfl z, rfl⟩
    · rw [if_neg (kne (v := 3) (b := 3) rfl (by omega) (by omega) w3), if_neg (fun u => w3 u.1)]
      obtain ⟨m1, e1, e2, e3⟩ := put (Or.inl (by omega))
      exact ⟨m1, e1, e3, fun _ => e2, fun z => absurd rfl z, rfl⟩
