/-! ===== L2: the reference's run: fails, begins, makes ===== -/
def ens : List Fr → List Nat
  | [] => []
  | f :: l => match f.2.2 with
    | none => f.1 :: ens l
    | some _ => ens l
def unw : List Nat → Sg → Sg
  | [], g => g
  | e :: l, g => unw l (fal e g)
def FOK (P : List Enm) (fr : List Fr) : Prop := ∀ f ∈ fr, f.1 < P.length ∧ ∀ x, f.2.2 = some x → x.1 < 3000 ∧ x.2 < 3000
theorem FOK.tl {P : List Enm} {f : Fr} {fr : List Fr} (h : FOK P (f :: fr)) : FOK P fr := fun z hz => h z (by simp [hz])
theorem mr_fails15 {G : GG} {d tt : Nat} {B : Nat → Int32} {K : List Ko} {P : List Enm} {ca : Nat} {fc : Int32} (hP : PB P) : ∀ (fr : List Fr) (fu : Nat) (m : MM) (g : Sg) (st : List Int32), RC G m d tt B K P g fr st ca fc → FOK P fr → fr.length < fu → fr.length ≤ 30 → ∃ m1, B_X11_fails_15 G fu d m = some ((), m1) ∧ RC G m1 d tt B K P (unw (ens fr) g) [] [] ca fc ∧ OMr m m1 d := by
  intro fr
  induction fr with
  | nil =>
    intro fu m g st h hf hfu h30
    cases fu with
    | zero => omega
    | succ fu =>
    obtain ⟨c1, c2⟩ := h.popS (s := st) (t := []) (by simp)
    rw [B_X11_fails_15, h.2.2.2.1.1, List.length_nil, nI_0, if_pos (by decide)]
    exact ⟨_, rfl, c1, c2⟩
  | cons f l ih =>
    intro fu m g st h hf hfu h30
    rw [List.length_cons] at hfu h30
    cases fu with
    | zero => omega
    | succ fu =>
    obtain ⟨c1, c2⟩ := h.popF
    have hL := h.1.1
    have hP8 := hP.1
    have h64 := h.2.2.2.1.1
    rw [List.length_cons] at h64
    obtain ⟨hfe, hfx⟩ := hf f (by simp)
    obtain ⟨⟨k1, k2, k3⟩, k4⟩ := h.2.2.2.1.2
    rw [B_X11_fails_15, h64, if_neg (nI_nle (by omega) (by omega)), nI_pred, nb_e (mr_67 c1.1.1), mz_67 hL, gI_sI_eq, ib_n (by omega) (by omega), nI_clamp (by omega), gI_sI_ne (Or.inl (by omega))]
    revert k3
    cases hy : f.2.2 with
    | some x =>
      intro k3
      dsimp only at k3
      have hx1 : ens (f :: l) = ens l := by rw [ens, hy]
      have := (hfx x hy).1
      rw [k3.1, if_pos (nI_pos' (by omega)), hx1]
      obtain ⟨m1, e1, e2, e3⟩ := ih fu _ g st c1 hf.tl (by omega) (by omega)
      exact ⟨m1, e1, e2, c2.tr e3⟩
    | none =>
      intro k3
      dsimp only at k3
      have hx1 : ens (f :: l) = f.1 :: ens l := by rw [ens, hy]
      have g47 : gI (sI m d 64 (nI l.length)) (d + 47) l.length = nI f.1 := by rw [gI_sI_ne (Or.inl (by omega))]; exact k1
      rw [k3, if_neg (by decide), nb_e (mr_56 c1.1.1), nb_e (mr_65 c1.1.1), mz_65 hL, ib_n (by omega) (by omega), g47, mz_56 hL, ib_n (by omega) (by omega), nI_clamp (by omega)]
      have c3 : RC G (sI (sI m d 64 (nI l.length)) (d + 42) f.1 2) d tt B K P (stS g f.1 2) l st ca fc := by
        refine RC.enm (e := f.1) c1 (OMr.a (by omega) (by omega)) (fun k => gI_sI_ne (Or.inl (by omega))) (fun i _ _ => aI (by omega)) (fun x X hx hX => ⟨gI_sI_ne (Or.inr hx), gI_sI_ne (Or.inl (by omega)), fun c _ => gI_sI_ne (Or.inl (by omega)), fun i _ => gI_sI_ne (Or.inl (by omega))⟩) hP (fun x hx => ⟨up_n hx, rfl, fun _ => rfl, fun _ => rfl⟩) rfl (fun X hX => ?_)
        have e2 : (stS g f.1 2).1 f.1 = 2 := up_e
        rw [e2]
        exact ⟨gI_sI_eq, fun z => by omega, fun c _ z => by omega, fun i q _ _ z => by omega⟩
      rw [nb_e (mr_65 c3.1.1), c3.2.2.2.1.1, mz_65 hL, ib_n (by omega) (by omega), nI_clamp (by omega), gI_sI_ne (Or.inl (by omega)), g47, show (200 : Int32) = nI 200 from rfl]
      obtain ⟨m1, e1, e2, e3⟩ := mr_note (e := f.1) (w := 200) c3
      rw [bd_e e1, hx1]
      obtain ⟨m2, f1, f2, f3⟩ := ih fu m1 _ st e2 hf.tl (by omega) (by omega)
      exact ⟨m2, f1, f2, c2.tr ((OMr.a (by omega) (by omega)).tr (e3.tr f3))⟩
theorem mr_fails {G : GG} {m : MM} {d tt k : Nat} {B : Nat → Int32} {K : List Ko} {P : List Enm} {g : Sg} {fr : List Fr} {st : List Int32} {ca : Nat} {fc : Int32} (hP : PB P) (h : RC G m d tt B K P g fr st ca fc) (hf : FOK P fr) (h30 : fr.length ≤ 30) : ∃ m1, M_X11_fails G d (nI k) m = some ((), m1) ∧ RC G m1 d tt B K P (unw (ens fr) g) [] [] k (fc + 1) ∧ OMr m m1 d := by
  obtain ⟨c1, c2⟩ := h.cau (k := k)
  unfold M_X11_fails
  rw [gI_sI_ne (Or.inr (by omega)), h.2.2.2.2.2.2]
  obtain ⟨m1, e1, e2, e3⟩ := mr_fails15 hP fr FU _ g st c1 hf (by unfold FU; omega) h30
  exact ⟨m1, e1, e2, c2.tr e3⟩
theorem mr_begin {G : GG} {m : MM} {d tt e : Nat} {B : Nat → Int32} {K : List Ko} {P : List Enm} {g : Sg} {fr : List Fr} {st : List Int32} {ca : Nat} {fc : Int32} (hP : PB P) (h : RC G m d tt B K P g fr st ca fc) (he : e < P.length) (hl : fr.length < 30) : ∃ m1, M_X11_begin G d (nI e) m = some ((), m1) ∧ RC G m1 d tt B K P (bgn e g) ((e, 0, none) :: fr) st ca fc ∧ OMr m m1 d := by
  have hL := h.1.1
  have hP8 := hP.1
  unfold M_X11_begin
  rw [nb_e (mr_56 hL), mz_56 hL, ib_n (by omega) (by omega), nI_clamp (by omega), nb_e (show gR (sI m (d + 42) e 3) d 59 = some (d + 45) from mr_59 hL), mz_59 hL, ib_n (by omega) (by omega)]
  have o : OMr m (sI (sI m (d + 42) e 3) (d + 45) e 0) d := (OMr.a (by omega) (by omega)).tr (OMr.a (by omega) (by omega))
  have c3 : RC G (sI (sI m (d + 42) e 3) (d + 45) e 0) d tt B K P (faS (stS g e 3) e 0) fr st ca fc := by
    refine RC.enm (e := e) h o (fun k => by rw [gI_sI_ne (Or.inl (by omega)), gI_sI_ne (Or.inl (by omega))]) (fun i _ _ => by rw [aI (by omega), aI (by omega)]) (fun x X hx hX => ⟨by rw [gI_sI_ne (Or.inl (by omega)), gI_sI_ne (Or.inr hx)], by rw [gI_sI_ne (Or.inr hx), gI_sI_ne (Or.inl (by omega))], fun c _ => by rw [gI_sI_ne (Or.inl (by omega)), gI_sI_ne (Or.inl (by omega))], fun i _ => by rw [gI_sI_ne (Or.inl (by omega)), gI_sI_ne (Or.inl (by omega))]⟩) hP (fun x hx => ⟨up_n hx, up_n hx, fun _ => rfl, fun _ => rfl⟩) rfl (fun X hX => ?_)
    have e2 : (faS (stS g e 3) e 0).1 e = 3 := up_e
    have e3 : (faS (stS g e 3) e 0).2.1 e = 0 := up_e
    rw [e2, e3]
    exact ⟨by rw [gI_sI_ne (Or.inl (by omega)), gI_sI_eq]; rfl, fun _ => by rw [gI_sI_eq]; rfl, fun c _ z => by omega, fun i q _ _ z => by omega⟩
  obtain ⟨m1, e1, e2, e3⟩ := mr_note (e := e) (w := 0) c3
  rw [nI_0] at e1
  rw [bd_e e1]
  obtain ⟨m2, f1, f2, f3⟩ := mr_frame (e := e) (c := 0) (x3 := -1) (x4 := 0) (y := none) e2 hl rfl
  rw [nI_0] at f1
  rw [bd_e f1]
  exact ⟨m2, rfl, f2, o.tr (e3.tr f3)⟩
/-- an enumeration's numbers -/
theorem RC.num {G : GG} {m : MM} {d tt e : Nat} {B : Nat → Int32} {K : List Ko} {P : List Enm} {E : Enm} {g : Sg} {fr : List Fr} {st : List Int32} {ca : Nat} {fc : Int32} (h : RC G m d tt B K P g fr st ca fc) (hE : P[e]? = some E) : gI m (d + 6) (8 * tt + e) = nI E.2.1.length ∧ gI m (d + 8) (8 * tt + e) = nI (fls E.2.2).length ∧ QE m d tt B K e E := by
  have := h.1.2.2.2.1.2 e E hE
  exact ⟨this.2.2.1.1, this.2.2.2.2.1.1, this⟩
theorem mr_madeC {G : GG} {m : MM} {d tt e c : Nat} {B : Nat → Int32} {K : List Ko} {P : List Enm} {E : Enm} {g : Sg} {fr : List Fr} {st : List Int32} {ca : Nat} {fc v : Int32} (hP : PB P) (h : RC G m d tt B K P g fr st ca fc) (hE : P[e]? = some E) (h3 : g.1 e = 3) (hfar : g.2.1 e = c) (hc : c < E.2.1.length) : ∃ m1, M_X11_made G d (nI e) v m = some ((), m1) ∧ RC G m1 d tt B K P (mkd e c v g) fr st ca fc ∧ OMr m m1 d := by
  obtain ⟨b1, b2, b3, b4, b5, b6, b7⟩ := pb_en hP hE
  have hL := h.1.1
  have htt := h.1.2.2.1
  obtain ⟨n1, n2, -⟩ := h.num hE
  have hfa : gI m (d + 45) e = nI c := by rw [(h.2.1 e E hE).2.1 h3, hfar]
  unfold M_X11_made
  rw [nb_e (mr_9 hL), mz_9 hL, h.1.2.1, show (8 : Int32) = nI 8 from rfl, pk_mul, nI_add, ib_n (by omega) (by omega), nb_e (mr_59 hL), mz_59 hL, ib_n (by omega) (by omega), nI_clamp (by omega), nI_clamp (by omega), n1, hfa, if_neg (fun z => absurd ((nI_leI (by omega) (by omega)).mp z) (by omega)), nb_e (mr_57 hL), ib_n (by omega) (by omega), show (12 : Int32) = nI 12 from rfl, pk_mul, nI_add, mz_57 hL, ib_n (by omega) (by omega), nI_clamp (by omega)]
  have g45 : gI (sI m (d + 43) (12 * e + c) v) (d + 45) e = nI c := by rw [gI_sI_ne (Or.inl (by omega))]; exact hfa
  rw [nb_e (show gR (sI m (d + 43) (12 * e + c) v) d 59 = some (d + 45) from mr_59 hL), mz_59 hL, ib_n (by omega) (by omega), g45, show (1 : Int32) = nI 1 from rfl, nI_add]
  -- the value alone, then the note, then how far
  have c1 : RC G (sI m (d + 43) (12 * e + c) v) d tt B K P (vaS g e c v) fr st ca fc := by
    refine RC.enm (e := e) h (OMr.a (by omega) (by omega)) (fun k => gI_sI_ne (Or.inl (by omega))) (fun i _ _ => aI (by omega)) (fun x X hx hX => ⟨gI_sI_ne (Or.inl (by omega)), gI_sI_ne (Or.inl (by omega)), fun c' _ => gI_sI_ne (Or.inr (by omega)), fun i _ => gI_sI_ne (Or.inl (by omega))⟩) hP (fun x hx => ⟨rfl, rfl, fun y => up2_n (Or.inl hx), fun _ => rfl⟩) rfl (fun X hX => ?_)
    rw [hE] at hX
    cases hX
    obtain ⟨s1, s2, s3, s4⟩ := h.2.1 e E hE
    refine ⟨by rw [gI_sI_ne (Or.inl (by omega))]; exact s1, fun z => by rw [gI_sI_ne (Or.inl (by omega))]; exact s2 z, fun c' hc' z => ?_, fun i q hq h7 z => by rw [gI_sI_ne (Or.inl (by omega))]; exact s4 i q hq h7 z⟩
    have z : g.1 e = 1 ∨ g.1 e = 3 ∧ c' < g.2.1 e := z
    rw [gI_sI_ne (Or.inr (by omega)), s3 c' hc' z]
    exact (up2_n (Or.inr (by omega))).symm
  obtain ⟨m1, e1, e2, e3⟩ := mr_note (e := e) (w := 1 + c) c1
  have h45 : gI m1 (d + 45) e = nI c := by
    have := (e2.2.1 e E hE).2.1 h3
    rw [this]
    show nI (g.2.1 e) = nI c
    rw [hfar]
  have v43 : gI m1 (d + 43) (12 * e + c) = v := by
    have ev : m1.1 (d + 43) = (sI m (d + 43) (12 * e + c) v).1 (d + 43) := by
      have hx : M_X11_note G d (nI e) (nI (1 + c)) (sI m (d + 43) (12 * e + c) v) = some ((), m1) := e1
      unfold M_X11_note at hx
      split at hx
      · cases hx
        rfl
      · rw [nb_e (show gR (sI m (d + 43) (12 * e + c) v) d 60 = some (d + 46) from mr_60 hL)] at hx
        unfold ib at hx
        split at hx
        · cases hx
        · cases hx
          rw [fI (by omega), aI (by omega)]
    show m1.1 (d + 43) (12 * e + c) = v
    rw [ev]
    exact gI_sI_eq
  rw [bd_e e1, nb_e (mr_59 e2.1.1), mz_59 hL, ib_n (by omega) (by omega), ib_n (by omega) (by omega), h45, nI_add]
  refine ⟨_, rfl, ?_, (OMr.a (by omega) (by omega)).tr (e3.tr (OMr.a (by omega) (by omega)))⟩
  refine RC.enm (g := trc (vaS g e c v) (nI (1000 * e + (1 + c)))) (e := e) e2 (OMr.a (by omega) (by omega)) (fun k => gI_sI_ne (Or.inl (by omega))) (fun i _ _ => aI (by omega)) (fun x X hx hX => ⟨gI_sI_ne (Or.inl (by omega)), gI_sI_ne (Or.inr hx), fun c' _ => gI_sI_ne (Or.inl (by omega)), fun i _ => gI_sI_ne (Or.inl (by omega))⟩) hP (fun x hx => ⟨rfl, up_n hx, fun y => rfl, fun _ => rfl⟩) (by show tad _ _ = tad _ _; rw [Nat.add_assoc]; rfl) (fun X hX => ?_)
  rw [hE] at hX
  cases hX
  obtain ⟨s1, s2, s3, s4⟩ := e2.2.1 e E hE
  have ef : (mkd e c v g).2.1 e = c + 1 := up_e
  rw [ef]
  refine ⟨by rw [gI_sI_ne (Or.inl (by omega))]; exact s1, fun _ => gI_sI_eq, fun c' hc' z => ?_, fun i q hq h7 z => ?_⟩
  · have z : g.1 e = 1 ∨ g.1 e = 3 ∧ c' < c + 1 := z
    rw [gI_sI_ne (Or.inl (by omega))]
    by_cases w : c' = c
    · rw [w, v43]
      exact up2_e.symm
    · exact s3 c' hc' (Or.inr ⟨h3, by show c' < g.2.1 e; omega⟩)
  · have z : g.1 e = 1 ∨ g.1 e = 3 ∧ E.2.1.length + i < c + 1 := z
    omega
