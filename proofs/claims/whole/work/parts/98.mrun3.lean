/-! ===== L2: the reference's run: fields, acts ===== -/
/-- a field is passed or set -/
theorem RC.farF {G : GG} {m m1 : MM} {d tt e f : Nat} {B : Nat → Int32} {K : List Ko} {P : List Enm} {E : Enm} {y : Mem} {g g1 : Sg} {fr : List Fr} {st : List Int32} {ca : Nat} {fc v : Int32} (hP : PB P) (h : RC G m d tt B K P g fr st ca fc) (hE : P[e]? = some E) (hy : (fls E.2.2)[f]? = some y) (h3 : g.1 e = 3) (hfar : g.2.1 e = E.2.1.length + f) (hw : (y.1 = 8 ∧ m1 = sI m (d + 45) e (nI (E.2.1.length + f + 1)) ∧ g1 = faS g e (E.2.1.length + f + 1)) ∨ (m1 = sI (sI m (d + 44) (6 * e + f) v) (d + 45) e (nI (E.2.1.length + f + 1)) ∧ g1 = faS (flS g e f v) e (E.2.1.length + f + 1))) : RC G m1 d tt B K P g1 fr st ca fc ∧ OMr m m1 d := by
  obtain ⟨b1, b2, b3, b4, b5, b6, b7⟩ := pb_en hP hE
  have hfl := get_lt hy
  obtain ⟨s1, s2, s3, s4⟩ := h.2.1 e E hE
  rcases hw with ⟨y8, em, eg⟩ | ⟨em, eg⟩
  · have o : OMr m m1 d := by rw [em]; exact OMr.a (by omega) (by omega)
    refine ⟨?_, o⟩
    rw [eg]
    rw [em] at o ⊢
    refine RC.enm (e := e) h o (fun k => gI_sI_ne (Or.inl (by omega))) (fun i _ _ => aI (by omega)) (fun x X hx hX => ⟨gI_sI_ne (Or.inl (by omega)), gI_sI_ne (Or.inr hx), fun c' _ => gI_sI_ne (Or.inl (by omega)), fun i _ => gI_sI_ne (Or.inl (by omega))⟩) hP (fun x hx => ⟨rfl, up_n hx, fun y => rfl, fun _ => rfl⟩) rfl (fun X hX => ?_)
    rw [hE] at hX
    cases hX
    rw [show (faS g e (E.2.1.length + f + 1)).2.1 e = E.2.1.length + f + 1 from up_e]
    refine ⟨by rw [gI_sI_ne (Or.inl (by omega))]; exact s1, fun _ => gI_sI_eq, fun c hc z => ?_, fun i q hq h7 z => ?_⟩
    · rw [gI_sI_ne (Or.inl (by omega))]
      exact s3 c hc (Or.inr ⟨h3, by omega⟩)
    · have z : g.1 e = 1 ∨ g.1 e = 3 ∧ E.2.1.length + i < E.2.1.length + f + 1 := z
      have ne : i ≠ f := fun w => by
        rw [w, hy] at hq
        cases hq
        omega
      rw [gI_sI_ne (Or.inl (by omega))]
      exact s4 i q hq h7 (Or.inr ⟨h3, by omega⟩)
  · have o : OMr m m1 d := by rw [em]; exact (OMr.a (by omega) (by omega)).tr (OMr.a (by omega) (by omega))
    refine ⟨?_, o⟩
    rw [eg]
    rw [em] at o ⊢
    refine RC.enm (e := e) h o (fun k => by rw [gI_sI_ne (Or.inl (by omega)), gI_sI_ne (Or.inl (by omega))]) (fun i _ _ => by rw [aI (by omega), aI (by omega)]) (fun x X hx hX => ⟨by rw [gI_sI_ne (Or.inl (by omega)), gI_sI_ne (Or.inl (by omega))], by rw [gI_sI_ne (Or.inr hx), gI_sI_ne (Or.inl (by omega))], fun c' _ => by rw [gI_sI_ne (Or.inl (by omega)), gI_sI_ne (Or.inl (by omega))], fun i _ => by rw [gI_sI_ne (Or.inl (by omega)), gI_sI_ne (Or.inr (by omega))]⟩) hP (fun x hx => ⟨rfl, up_n hx, fun y => rfl, fun y => up2_n (Or.inl hx)⟩) rfl (fun X hX => ?_)
    rw [hE] at hX
    cases hX
    rw [show (faS (flS g e f v) e (E.2.1.length + f + 1)).2.1 e = E.2.1.length + f + 1 from up_e]
    refine ⟨by rw [gI_sI_ne (Or.inl (by omega)), gI_sI_ne (Or.inl (by omega))]; exact s1, fun _ => gI_sI_eq, fun c hc z => ?_, fun i q hq h7 z => ?_⟩
    · rw [gI_sI_ne (Or.inl (by omega)), gI_sI_ne (Or.inl (by omega))]
      exact s3 c hc (Or.inr ⟨h3, by omega⟩)
    · have z : g.1 e = 1 ∨ g.1 e = 3 ∧ E.2.1.length + i < E.2.1.length + f + 1 := z
      rw [gI_sI_ne (Or.inl (by omega))]
      by_cases w : i = f
      · rw [w, gI_sI_eq]
        exact up2_e.symm
      · rw [gI_sI_ne (Or.inr (by omega)), s4 i q hq h7 (Or.inr ⟨h3, by omega⟩)]
        exact (up2_n (Or.inr w)).symm
theorem mr_madeF {G : GG} {m : MM} {d tt e f : Nat} {B : Nat → Int32} {K : List Ko} {P : List Enm} {E : Enm} {y : Mem} {g : Sg} {fr : List Fr} {st : List Int32} {ca : Nat} {fc v : Int32} (hP : PB P) (h : RC G m d tt B K P g fr st ca fc) (hE : P[e]? = some E) (hy : (fls E.2.2)[f]? = some y) (h3 : g.1 e = 3) (hfar : g.2.1 e = E.2.1.length + f) : ∃ m1, M_X11_made G d (nI e) v m = some ((), m1) ∧ RC G m1 d tt B K P (faS (flS g e f v) e (E.2.1.length + f + 1)) fr st ca fc ∧ OMr m m1 d := by
  obtain ⟨b1, b2, b3, b4, b5, b6, b7⟩ := pb_en hP hE
  have hfl := get_lt hy
  have hL := h.1.1
  have htt := h.1.2.2.1
  obtain ⟨n1, n2, -⟩ := h.num hE
  have hfa : gI m (d + 45) e = nI (E.2.1.length + f) := by rw [(h.2.1 e E hE).2.1 h3, hfar]
  unfold M_X11_made
  rw [nb_e (mr_9 hL), mz_9 hL, h.1.2.1, show (8 : Int32) = nI 8 from rfl, pk_mul, nI_add, ib_n (by omega) (by omega), nb_e (mr_59 hL), mz_59 hL, ib_n (by omega) (by omega), nI_clamp (by omega), nI_clamp (by omega), n1, hfa, if_pos ((nI_leI (by omega) (by omega)).mpr (by omega)), nb_e (mr_58 hL), ib_n (by omega) (by omega), show (6 : Int32) = nI 6 from rfl, pk_mul, nI_add, pk_sub (by omega), show 6 * e + (E.2.1.length + f) - E.2.1.length = 6 * e + f by omega, mz_58 hL, ib_n (by omega) (by omega), nI_clamp (by omega), nb_e (show gR (sI m (d + 44) (6 * e + f) v) d 59 = some (d + 45) from mr_59 hL), mz_59 hL, ib_n (by omega) (by omega), ib_n (by omega) (by omega), gI_sI_ne (Or.inl (by omega)), hfa, nI_1]
  obtain ⟨c1, c2⟩ := h.farF (v := v) hP hE hy h3 hfar (Or.inr ⟨rfl, rfl⟩)
  exact ⟨_, rfl, c1, c2⟩
/-- the next act -/
theorem RC.adv {G : GG} {m : MM} {d tt e c a b : Nat} {B : Nat → Int32} {K : List Ko} {P : List Enm} {g : Sg} {fr : List Fr} {st : List Int32} {ca : Nat} {fc : Int32} (h : RC G m d tt B K P g ((e, c, some (a, b)) :: fr) st ca fc) (hl : fr.length < 30) : (nb (gR m d 67) fun b_4 => ib (nI fr.length) (G.2.2 b_4) <| ib (nI fr.length) (G.2.2 b_4) <| some ((), sI m b_4 (nI fr.length).toNatClampNeg ((gI m b_4 (nI fr.length).toNatClampNeg) + 1))) = some ((), sI m (d + 49) fr.length (nI (a + 1))) ∧ RC G (sI m (d + 49) fr.length (nI (a + 1))) d tt B K P g ((e, c, some (a + 1, b)) :: fr) st ca fc ∧ OMr m (sI m (d + 49) fr.length (nI (a + 1))) d := by
  obtain ⟨a1, a2, a3, a4, a5, a6, a7⟩ := h
  obtain ⟨k0, ⟨k1, k2, k3⟩, k4⟩ := a4
  dsimp only at k3
  have o : OMr m (sI m (d + 49) fr.length (nI (a + 1))) d := OMr.a (by omega) (by omega)
  have gi : ∀ p, gI (sI m (d + 49) fr.length (nI (a + 1))) d p = gI m d p := fun p => gI_sI_ne (Or.inl (by omega))
  refine ⟨?_, ⟨a1.kept o, a2.kept (fun i _ _ => aI (by omega)), a3.kept (gi _) (aI (by omega)), ⟨by rw [gi]; exact k0, ⟨?_, ?_, ?_⟩, k4.kept (fun p j _ _ hj => gI_sI_ne (Or.inr (by omega)))⟩, ⟨by rw [gi]; exact a5.1, a5.2.kept (fun j _ => congrFun (aI (by omega)) j)⟩, by rw [gi]; exact a6, by rw [gi]; exact a7⟩, o⟩
  · rw [nb_e (mr_67 a1.1), mz_67 a1.1, ib_n hl (by omega), ib_n hl (by omega), nI_clamp (by omega), k3.1, nI_1]
  · rw [gI_sI_ne (Or.inl (by omega))]
    exact k1
  · rw [gI_sI_ne (Or.inl (by omega))]
    exact k2
  · dsimp only
    exact ⟨gI_sI_eq, by rw [gI_sI_ne (Or.inl (by omega))]; exact k3.2⟩
/-- a value is put, and the next act -/
theorem mr_put {G : GG} {m : MM} {d tt e c a b : Nat} {B : Nat → Int32} {K : List Ko} {P : List Enm} {g : Sg} {fr : List Fr} {st : List Int32} {ca : Nat} {fc v : Int32} (h : RC G m d tt B K P g ((e, c, some (a, b)) :: fr) st ca fc) (hl : fr.length < 30) (hs : st.length < 2100) : ∃ m1, (bd (M_X11_push G d v m) fun _ m_3 => nb (gR m_3 d 67) fun b_4 => ib (nI fr.length) (G.2.2 b_4) <| ib (nI fr.length) (G.2.2 b_4) <| some ((), sI m_3 b_4 (nI fr.length).toNatClampNeg ((gI m_3 b_4 (nI fr.length).toNatClampNeg) + 1))) = some ((), m1) ∧ RC G m1 d tt B K P g ((e, c, some (a + 1, b)) :: fr) (v :: st) ca fc ∧ OMr m m1 d := by
  obtain ⟨m1, e1, e2, e3⟩ := mr_push (v := v) h hs
  obtain ⟨f1, f2, f3⟩ := e2.adv hl
  rw [bd_e e1]
  exact ⟨_, f1, f2, e3.tr f3⟩
def JB (G : GG) (d : Nat) (x1 x2 : Int32) (m : MM) : Option (Unit × MM) :=
  nb (gR (sI m d 70 ((gI m d 70) - 1)) d 69) fun b_59 =>
    ib (gI (sI m d 70 ((gI m d 70) - 1)) d 70) (G.2.2 b_59) <|
      ib ((gI (sI m d 70 ((gI m d 70) - 1)) d 70) - 1) (G.2.2 b_59) <|
        nb (gR (sI m d 70 ((gI m d 70) - 1)) d 34) fun b_60 =>
          ib x2 (G.2.2 b_60) <|
            if (gI (sI m d 70 ((gI m d 70) - 1)) b_60 x2.toNatClampNeg) = 10 then
              if (gI (sI m d 70 ((gI m d 70) - 1)) b_59 ((gI (sI m d 70 ((gI m d 70) - 1)) d 70).toNatClampNeg)) = 0 then
                bd (M_X11_fails G d 2 (sI m d 70 ((gI m d 70) - 1))) fun _ m_62 => some ((), m_62)
              else
                B_X11_doAct_462 G d x1 x2 (gI (sI m d 70 ((gI m d 70) - 1)) b_59 ((gI (sI m d 70 ((gI m d 70) - 1)) d 70).toNatClampNeg)) (gI (sI m d 70 ((gI m d 70) - 1)) b_59 (((gI (sI m d 70 ((gI m d 70) - 1)) d 70) - 1).toNatClampNeg)) (sI m d 70 ((gI m d 70) - 1))
            else
              B_X11_doAct_462 G d x1 x2 (gI (sI m d 70 ((gI m d 70) - 1)) b_59 ((gI (sI m d 70 ((gI m d 70) - 1)) d 70).toNatClampNeg)) (gI (sI m d 70 ((gI m d 70) - 1)) b_59 (((gI (sI m d 70 ((gI m d 70) - 1)) d 70) - 1).toNatClampNeg)) (sI m d 70 ((gI m d 70) - 1))
theorem mr_join {G : GG} {m : MM} {d tt e c a b o k : Nat} {B : Nat → Int32} {K : List Ko} {P : List Enm} {g : Sg} {fr : List Fr} {l : List Int32} {fc x y : Int32} (hP : PB P) (h : RC G m d tt B K P g ((e, c, some (a, b)) :: fr) (y :: x :: l) 0 fc) (hf : FOK P ((e, c, some (a, b)) :: fr)) (hl : fr.length < 30) (hs : l.length < 2000) (hk : k < 4200) (hac : gI m (d + 31) k = nI (acd o)) (ho : 8 ≤ o ∧ o ≤ 11) : ∃ m1, JB G d (nI fr.length) (nI k) m = some ((), m1) ∧ OMr m m1 d ∧ (¬ (o = 11 ∧ y = 0) → RC G m1 d tt B K P g ((e, c, some (a + 1, b)) :: fr) (jn o x y :: l) 0 fc) ∧ ((o = 11 ∧ y = 0) → RC G m1 d tt B K P (unw (ens fr) g) [] [] 2 (fc + 1)) := by
  have hL := h.1.1
  have h70 := h.2.2.2.2.1.1
  simp only [List.length_cons] at h70
  obtain ⟨sy, sx, -⟩ := h.2.2.2.2.1.2
  obtain ⟨c1, c2⟩ := h.popS (s := [y]) (t := x :: l) rfl
  simp only [List.length_cons] at c1 c2 sy
  have hLc := c1.1.1
  unfold JB
  rw [h70, nI_pred, nb_e (mr_69 hLc), mz_69 hL, gI_sI_eq, ib_n (by omega) (by omega), nI_pred, ib_n (by omega) (by omega), nb_e (mr_34 hLc), mz_34 hL, ib_n (by omega) (by omega), nI_clamp (by omega), nI_clamp (by omega), nI_clamp (by omega), gI_sI_ne (Or.inl (by omega)), gI_sI_ne (Or.inl (by omega)), gI_sI_ne (Or.inl (by omega)), hac, sy, sx]
  -- the sum is put
  have wr : ∀ v, ∃ m1, (ib ((gI (sI m d 70 (nI (l.length + 1))) d 70) - 1) (G.2.2 (d + 51)) <| nb (gR (sI (sI m d 70 (nI (l.length + 1))) (d + 51) (((gI (sI m d 70 (nI (l.length + 1))) d 70) - 1).toNatClampNeg) v) d 67) fun b_24 => ib (nI fr.length) (G.2.2 b_24) <| ib (nI fr.length) (G.2.2 b_24) <| some ((), sI (sI (sI m d 70 (nI (l.length + 1))) (d + 51) (((gI (sI m d 70 (nI (l.length + 1))) d 70) - 1).toNatClampNeg) v) b_24 (nI fr.length).toNatClampNeg ((gI (sI (sI m d 70 (nI (l.length + 1))) (d + 51) (((gI (sI m d 70 (nI (l.length + 1))) d 70) - 1).toNatClampNeg) v) b_24 (nI fr.length).toNatClampNeg) + 1))) = some ((), m1) ∧ RC G m1 d tt B K P g ((e, c, some (a + 1, b)) :: fr) (v :: l) 0 fc ∧ OMr m m1 d := fun v => by
    obtain ⟨t1, t2⟩ := c1.top (v := v)
    obtain ⟨f1, f2, f3⟩ := t1.adv hl
    rw [gI_sI_eq, nI_pred, mz_69 hL, ib_n (by omega) (by omega), nI_clamp (by omega)]
    exact ⟨_, f1, f2, c2.tr (t2.tr f3)⟩
  have ac : gI (sI m d 70 (nI (l.length + 1))) (d + 31) k = nI (acd o) := by rw [gI_sI_ne (Or.inl (by omega))]; exact hac
  rcases (show o = 8 ∨ o = 9 ∨ o = 10 ∨ o = 11 by omega) with w | w | w | w
  · subst w
    rw [if_neg (by decide)]
    unfold B_X11_doAct_462
    obtain ⟨m1, e1, e2, e3⟩ := wr (x + y)
    rw [nb_e (mr_69 hLc), nb_e (mr_34 hLc), mz_34 hL, ib_n (by omega) (by omega), nI_clamp (by omega), ac, if_pos (by decide)]
    exact ⟨m1, e1, e3, fun _ => e2, fun z => by omega⟩
  · subst w
    rw [if_neg (by decide)]
    unfold B_X11_doAct_462
    obtain ⟨m1, e1, e2, e3⟩ := wr (x - y)
    rw [nb_e (mr_69 hLc), nb_e (mr_34 hLc), mz_34 hL, ib_n (by omega) (by omega), nI_clamp (by omega), ac, if_neg (by decide), ib_n (by omega) (by omega), if_pos (by decide)]
    exact ⟨m1, e1, e3, fun _ => e2, fun z => by omega⟩
  · subst w
    rw [if_neg (by decide)]
    unfold B_X11_doAct_462
    obtain ⟨m1, e1, e2, e3⟩ := wr (x * y)
    rw [nb_e (mr_69 hLc), nb_e (mr_34 hLc), mz_34 hL, ib_n (by omega) (by omega), nI_clamp (by omega), ac, if_neg (by decide), ib_n (by omega) (by omega), if_neg (by decide), ib_n (by omega) (by omega), if_pos (by decide)]
    exact ⟨m1, e1, e3, fun _ => e2, fun z => by omega⟩
  · subst w
    rw [if_pos (by decide)]
    by_cases y0 : y = 0
    · rw [if_pos y0]
      obtain ⟨m1, e1, e2, e3⟩ := mr_fails (k := 2) hP c1 hf (by rw [List.length_cons]; omega)
      rw [show (2 : Int32) = nI 2 from rfl, bd_e e1]
      exact ⟨m1, rfl, c2.tr e3, fun z => absurd ⟨rfl, y0⟩ z, fun _ => e2⟩
    · rw [if_neg y0]
      unfold B_X11_doAct_462
      obtain ⟨m1, e1, e2, e3⟩ := wr (x / y)
      rw [nb_e (mr_69 hLc), nb_e (mr_34 hLc), mz_34 hL, ib_n (by omega) (by omega), nI_clamp (by omega), ac, if_neg (by decide), ib_n (by omega) (by omega), if_neg (by decide), ib_n (by omega) (by omega), if_neg (by decide), nz_e y0]
      exact ⟨m1, e1, e3, fun _ => e2, fun z => absurd z.2 y0⟩
