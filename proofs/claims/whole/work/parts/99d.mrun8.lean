/-! ===== L2: the reference's run: whole ===== -/
theorem mr_sfs {G : GG} {d tt e D dd : Nat} {B : Nat → Int32} {K : List Ko} {P : List Enm} {E : Enm} {fr : List Fr} {ss : List Int32} {fc : Int32} (hO : OKP B P K) (hK : (aK K).length ≤ 2000) (hR : HR G d tt B K P D dd (wnt B P K D)) (hE : P[e]? = some E) (hf : FOK P ((e, 0, none) :: fr)) (hl : fr.length + 1 ≤ 2 * dd) (hd8 : dd ≤ 8) (hss : ss.length ≤ 21 * dd) : ∀ (l : List Mem) (f : Nat) (g : Sg) (m : MM), (fls E.2.2).drop f = l → f + l.length = (fls E.2.2).length → RC G m d tt B K P g ((e, 0, none) :: fr) ss 0 fc → ISg P g → g.1 e = 3 → g.2.1 e = E.2.1.length + f → zc g < D → dd + zc g ≤ 8 → RES G d tt B K P m g ((e, 0, none) :: fr) ss fc (4010 * l.length) (sfs (wnt B P K D) B P K e E l f g).1 (sfs (wnt B P K D) B P K e E l f g).2 (e :: ens fr) := by
  intro l
  induction l with
  | nil =>
    intro f g m hdr hc h hI h3 hfar hz hd
    exact ⟨m, 0, Go.rf, OMr.rf, by show 0 + 80000 * zc g ≤ 4010 * 0 + 80000 * zc g; omega, fun _ => h, fun z => absurd rfl z⟩
  | cons y l ih =>
    intro f g m hdr hc h hI h3 hfar hz hd
    rw [List.length_cons] at hc ⊢
    have hy : (fls E.2.2)[f]? = some y := by
      have := congrArg (fun l => l[0]?) hdr
      simpa using this
    obtain ⟨m1, j, r1, r2, r3, r4, r5⟩ := mr_sfl hO hK hR hE hy hf hl hd8 hss h hI h3 hfar hz hd
    obtain ⟨a1, a2⟩ := sfl_ge (B := B) (K := K) (y := y) (wnt_gs (B := B) (P := P) (K := K) D) hE h3 hfar (by omega)
    have hzz := a1.zc
    rw [sfs]
    by_cases w : (sfl (wnt B P K D) B P K e E f y g).1 = 0
    · rw [if_pos w]
      obtain ⟨m2, j2, s1, s2, s3, s4, s5⟩ := ih (f + 1) _ m1 (by rw [← List.drop_drop, hdr]; rfl) (by omega) (r4 w) (a1.2.2 hI) (a1.2.1.trans h3) (a2 w) (by omega) (by omega)
      exact ⟨m2, j2 + j, r1.tr s1, r2.tr s2, by omega, s4, s5⟩
    · rw [if_neg w]
      exact ⟨m1, j, r1, r2, by omega, fun z => absurd z w, r5⟩
theorem mr_done {G : GG} {m : MM} {d tt e : Nat} {B : Nat → Int32} {K : List Ko} {P : List Enm} {E : Enm} {fr : List Fr} {ss : List Int32} {g : Sg} {fc : Int32} (hP : PB P) (hE : P[e]? = some E) (hl : fr.length < 30) (h : RC G m d tt B K P g ((e, 0, none) :: fr) ss 0 fc) (h3 : g.1 e = 3) (hfar : g.2.1 e = E.2.1.length + (fls E.2.2).length) : ∃ m1, Go G d m m1 1 ∧ OMr m m1 d ∧ RC G m1 d tt B K P (dne e g) fr ss 0 fc := by
  obtain ⟨b1, b2, b3, b4, b5, b6, b7⟩ := pb_en hP hE
  have hL := h.1.1
  have htt := h.1.2.2.1
  obtain ⟨n1, n2, n3⟩ := h.num hE
  have hfa : gI m (d + 45) e = nI (E.2.1.length + (fls E.2.2).length) := by rw [(h.2.1 e E hE).2.1 h3, hfar]
  obtain ⟨s1, s2, s3, s4⟩ := h.2.1 e E hE
  have cl : (nI (8 * tt + e)).toNatClampNeg = 8 * tt + e := nI_clamp (by omega)
  have o : OMr m (sI m (d + 42) e 1) d := OMr.a (by omega) (by omega)
  have c1 : RC G (sI m (d + 42) e 1) d tt B K P (stS g e 1) ((e, 0, none) :: fr) ss 0 fc := by
    refine RC.enm (e := e) h o (fun k => gI_sI_ne (Or.inl (by omega))) (fun i _ _ => aI (by omega)) (fun x X hx hX => ⟨gI_sI_ne (Or.inr hx), gI_sI_ne (Or.inl (by omega)), fun c' _ => gI_sI_ne (Or.inl (by omega)), fun i _ => gI_sI_ne (Or.inl (by omega))⟩) hP (fun x hx => ⟨up_n hx, rfl, fun y => rfl, fun _ => rfl⟩) rfl (fun X hX => ?_)
    rw [hE] at hX
    cases hX
    rw [show (stS g e 1).1 e = 1 from up_e]
    refine ⟨gI_sI_eq, fun z => by omega, fun c hc z => ?_, fun i q hq h7 z => ?_⟩
    · rw [gI_sI_ne (Or.inl (by omega))]
      exact s3 c hc (Or.inr ⟨h3, by omega⟩)
    · have := get_lt hq
      rw [gI_sI_ne (Or.inl (by omega))]
      exact s4 i q hq h7 (Or.inr ⟨h3, by omega⟩)
  obtain ⟨m1, e1, e2, e3⟩ := mr_note (e := e) (w := 100) c1
  obtain ⟨d1, d2⟩ := e2.popF
  have h64 := e2.2.2.2.1.1
  rw [List.length_cons] at h64
  refine ⟨_, wk_go h hl (m1 := sI m1 d 64 (nI fr.length)) ?_, o.tr (e3.tr d2), d1⟩
  unfold M_X11_goOn
  rw [nb_e (mr_59 hL), mz_59 hL, ib_n (by omega) (by omega), nb_e (mr_9 hL), h.1.2.1, show (8 : Int32) = nI 8 from rfl, pk_mul, nI_add, mz_9 hL, ib_n (by omega) (by omega), nI_clamp (n := e) (by omega), hfa, cl, n1, if_pos ((nI_leI (by omega) (by omega)).mpr (by omega)), ib_n (by omega) (by omega), nb_e (mr_11 hL), mz_11 hL, ib_n (by omega) (by omega), n2, nI_add, if_pos ((nI_leI (by omega) (by omega)).mpr (by omega)), nb_e (mr_56 hL), mz_56 hL, ib_n (by omega) (by omega), show (100 : Int32) = nI 100 from rfl, bd_e e1, h64, nI_pred]
theorem mr_hr {G : GG} {d tt : Nat} {B : Nat → Int32} {K : List Ko} {P : List Enm} (hO : OKP B P K) (hK : (aK K).length ≤ 2000) : ∀ (D dd : Nat), HR G d tt B K P D dd (wnt B P K D) := by
  intro D
  induction D with
  | zero => intro dd e E m g fr st fc _ _ _ _ _ hz; omega
  | succ D ih =>
    intro dd e E m g fr st fc hE h0 h hI hf hz hd hl hs
    have hP := hO.1
    obtain ⟨b1, b2, b3, b4, b5, b6, b7⟩ := pb_en hP hE
    have he := get_lt hE
    have hzp := zc_pos b1 h0
    obtain ⟨g1, g2, g3, g4⟩ := bgn_ge hE h0
    have zb := zc_bgn b1 h0
    obtain ⟨m1, e1, e2, e3⟩ := mr_begin hP h he (by omega)
    have hf2 : FOK P ((e, 0, none) :: fr) := fun z hz => by
      rcases List.mem_cons.mp hz with w | w
      · rw [w]
        exact ⟨he, fun x hx => by cases hx⟩
      · exact hf z w
    have ew : wnt B P K (D + 1) e g = strt (wnt B P K D) B P K e E g := by rw [wnt, if_neg (by omega), if_pos h0, hE]
    rw [ew]
    obtain ⟨m2, j, r1, r2, r3, r4, r5⟩ := mr_mkl hO hK (ih (dd + 1)) hE hf2 (by omega) (by omega) (by omega) E.2.1.length 0 (bgn e g) m1 (by omega) e2 (g4 hI) g2 g3 (by omega) (by omega)
    obtain ⟨a1, a2⟩ := mkl_ge (B := B) (K := K) (wnt_gs (B := B) (P := P) (K := K) D) hE E.2.1.length 0 (bgn e g) g2 g3 (by omega)
    have zz := a1.zc
    have hbd : RES G d tt B K P m1 (bgn e g) ((e, 0, none) :: fr) st fc 72180 (bdy (wnt B P K D) B P K e E (mkl (wnt B P K D) B P K e E E.2.1.length 0 (bgn e g))).1 (bdy (wnt B P K D) B P K e E (mkl (wnt B P K D) B P K e E E.2.1.length 0 (bgn e g))).2 (e :: ens fr) ∧ ((bdy (wnt B P K D) B P K e E (mkl (wnt B P K D) B P K e E E.2.1.length 0 (bgn e g))).1 = 0 → (bdy (wnt B P K D) B P K e E (mkl (wnt B P K D) B P K e E E.2.1.length 0 (bgn e g))).2.1 e = 3 ∧ (bdy (wnt B P K D) B P K e E (mkl (wnt B P K D) B P K e E E.2.1.length 0 (bgn e g))).2.2.1 e = E.2.1.length + (fls E.2.2).length) := by
      unfold bdy
      by_cases w : (mkl (wnt B P K D) B P K e E E.2.1.length 0 (bgn e g)).1 = 0
      · rw [if_pos w]
        obtain ⟨m3, j2, s1, s2, s3, s4, s5⟩ := mr_sfs hO hK (ih (dd + 1)) hE hf2 (by omega) (by omega) (by omega) (fls E.2.2) 0 _ m2 rfl (by omega) (r4 w) (a1.2.2 (g4 hI)) (a1.2.1.trans g2) (a2 w) (by omega) (by omega)
        obtain ⟨c1, c2⟩ := sfs_ge (B := B) (K := K) (wnt_gs (B := B) (P := P) (K := K) D) hE (fls E.2.2) 0 _ (a1.2.1.trans g2) (a2 w) (by omega)
        exact ⟨⟨m3, j2 + j, r1.tr s1, r2.tr s2, by omega, s4, s5⟩, fun z => ⟨c1.2.1.trans (a1.2.1.trans g2), c2 z⟩⟩
      · rw [if_neg w]
        exact ⟨⟨m2, j, r1, r2, by omega, fun z => absurd z w, r5⟩, fun z => absurd z w⟩
    unfold strt
    generalize bdy (wnt B P K D) B P K e E (mkl (wnt B P K D) B P K e E E.2.1.length 0 (bgn e g)) = r at hbd
    obtain ⟨⟨m3, j3, t1, t2, t3, t4, t5⟩, t6⟩ := hbd
    unfold fin
    have zst : ∀ (k : Nat) (v : Int32), r.2.1 e = 3 → zc (trc (stS r.2 e (k + 1)) v) ≤ zc r.2 := fun k v h3 => zc_le (fun x hx => by
      show up r.2.1 e (k + 1) x ≠ 0
      by_cases w : x = e
      · rw [w, up_e]
        omega
      · rw [up_n w]
        exact hx)
    by_cases w : r.1 = 0
    · rw [if_pos w]
      obtain ⟨t6, t7⟩ := t6 w
      obtain ⟨m4, u1, u2, u3⟩ := mr_done hP hE (by omega) (t4 w) t6 t7
      have zf : zc (dne e r.2) ≤ zc r.2 := zst 0 _ t6
      exact ⟨m1, m4, 1 + j3, e1, e3, t1.tr u1, t2.tr u2, by dsimp only; omega, fun _ => ⟨u3, up_e⟩, fun z => absurd rfl z⟩
    · rw [if_neg w]
      have zf : zc (fal e r.2) ≤ zc r.2 := zc_le (fun x hx => by
        show up r.2.1 e 2 x ≠ 0
        by_cases w : x = e
        · rw [w, up_e]
          omega
        · rw [up_n w]
          exact hx)
      exact ⟨m1, m3, j3, e1, e3, t1, t2, by dsimp only; omega, fun z => absurd z w, fun _ => t5 w⟩
/-- the reference between two calls -/
def RN (G : GG) (m : MM) (d tt : Nat) (B : Nat → Int32) (K : List Ko) (P : List Enm) (g : Sg) (ca : Nat) (fc : Int32) : Prop := RQ G m d tt B K P ∧ RSg m d P g ∧ RTr m d g.2.2.2.2 ∧ gI m d 62 = nI ca ∧ gI m d 63 = fc
theorem RC.rn {G : GG} {m : MM} {d tt : Nat} {B : Nat → Int32} {K : List Ko} {P : List Enm} {g : Sg} {fr : List Fr} {st : List Int32} {ca : Nat} {fc : Int32} (h : RC G m d tt B K P g fr st ca fc) : RN G m d tt B K P g ca fc := ⟨h.1, h.2.1, h.2.2.1, h.2.2.2.2.2.1, h.2.2.2.2.2.2⟩
theorem RN.rc {G : GG} {m : MM} {d tt : Nat} {B : Nat → Int32} {K : List Ko} {P : List Enm} {g : Sg} {ca : Nat} {fc : Int32} (h : RN G m d tt B K P g ca fc) : RC G (sI (sI m d 64 0) d 70 0) d tt B K P g [] [] ca fc ∧ OMr m (sI (sI m d 64 0) d 70 0) d := by
  obtain ⟨a1, a2, a3, a6, a7⟩ := h
  have o : OMr m (sI (sI m d 64 0) d 70 0) d := (OMr.f (by omega)).tr (OMr.f (by omega))
  have fi : ∀ p, 0 < p → (sI (sI m d 64 0) d 70 0).1 (d + p) = m.1 (d + p) := fun p hp => by rw [fI hp, fI hp]
  have gi : ∀ p, p ≠ 64 → p ≠ 70 → gI (sI (sI m d 64 0) d 70 0) d p = gI m d p := fun p x y => by rw [gI_sI_ne (Or.inr y), gI_sI_ne (Or.inr x)]
  exact ⟨⟨a1.kept o, a2.kept (fun i _ _ => fi _ (by omega)), a3.kept (gi _ (by omega) (by omega)) (fi _ (by omega)), ⟨by rw [gI_sI_ne (Or.inr (by omega)), gI_sI_eq]; rfl, trivial⟩, ⟨by rw [gI_sI_eq]; rfl, trivial⟩, by rw [gi _ (by omega) (by omega)]; exact a6, by rw [gi _ (by omega) (by omega)]; exact a7⟩, o⟩
/-- the loop has no frames left -/
theorem wk_stop {G : GG} {m : MM} {d tt fu : Nat} {B : Nat → Int32} {K : List Ko} {P : List Enm} {g : Sg} {st : List Int32} {ca : Nat} {fc : Int32} (h : RC G m d tt B K P g [] st ca fc) : B_X11_work_0 G (fu + 1) d m = some ((), m) := by
  rw [B_X11_work_0, h.2.2.2.1.1, if_pos (by rw [List.length_nil, nI_0]; decide)]
theorem wk_all {G : GG} {m m1 : MM} {d tt j : Nat} {B : Nat → Int32} {K : List Ko} {P : List Enm} {g : Sg} {st : List Int32} {ca : Nat} {fc : Int32} (hg : Go G d m m1 j) (h : RC G m1 d tt B K P g [] st ca fc) (hj : j < 900000) : M_X11_work G d m = some ((), m1) := by
  unfold M_X11_work
  rw [show FU = (999999 - j + 1) + j by unfold FU; omega, hg, wk_stop h]
theorem mr_want {G : GG} {m : MM} {d tt e : Nat} {B : Nat → Int32} {K : List Ko} {P : List Enm} {E : Enm} {g : Sg} {fc : Int32} (hO : OKP B P K) (hK : (aK K).length ≤ 2000) (hE : P[e]? = some E) (hI : ISg P g) (h : RN G m d tt B K P g 0 fc) : ∃ m1, M_X11_want G d (nI e) m = some (decide ((wnt B P K 10 e g).1 = 0), m1) ∧ RC G m1 d tt B K P (wnt B P K 10 e g).2 [] [] (wnt B P K 10 e g).1 (if (wnt B P K 10 e g).1 = 0 then fc else fc + 1) ∧ OMr m m1 d := by
  obtain ⟨c1, c2⟩ := h.rc
  have hP := hO.1
  obtain ⟨b1, b2, b3, b4, b5, b6, b7⟩ := pb_en hP hE
  obtain ⟨i1, -⟩ := hI e E hE
  have hL := c1.1.1
  have h8 := zc_8 g
  have hk6 := wnt_k (B := B) (P := P) (K := K) 10 e g
  obtain ⟨s1, -⟩ := c1.2.1 e E hE
  unfold M_X11_want
  rw [nb_e (mr_56 hL), mz_56 hL, ib_n (by omega) (by omega), nI_clamp (by omega), s1]
  by_cases h0 : g.1 e = 0
  · obtain ⟨m1, m2, j, r1, r2, r3, r4, r5, r6, r7⟩ := mr_hr hO hK 10 0 e E _ g [] [] fc hE h0 c1 hI (fun z hz => by simp at hz) (by omega) (by omega) (by simp) (by simp)
    rw [if_pos (by rw [h0, nI_0]), bd_e r1]
    by_cases k : (wnt B P K 10 e g).1 = 0
    · obtain ⟨r6, -⟩ := r6 k
      rw [bd_e (wk_all r3 r6 (by omega)), r6.2.2.2.2.2.1, if_pos nI_0, k]
      exact ⟨m2, rfl, r6, c2.tr (r2.tr r4)⟩
    · have r7 := r7 k
      rw [bd_e (wk_all r3 r7 (by omega)), r7.2.2.2.2.2.1, if_neg (nk0 hk6 k), if_neg k, decide_eq_false k]
      exact ⟨m2, rfl, r7, c2.tr (r2.tr r4)⟩
  · have ew : wnt B P K 10 e g = if g.1 e = 2 then (6, g) else (0, g) := by rw [wnt, if_neg (c := g.1 e = 0) h0]
    rw [if_neg (kne (v := 0) (b := 0) nI_0.symm (by omega) (by omega) h0), ib_n (by omega) (by omega), ew]
    by_cases h2 : g.1 e = 2
    · obtain ⟨m1, e1, e2, e3⟩ := mr_fails (k := 6) hP c1 (fun z hz => by simp at hz) (by simp)
      rw [if_pos (by rw [h2]; rfl), if_pos h2, show (6 : Int32) = nI 6 from rfl, bd_e e1]
      unfold B_X11_want_57
      rw [e2.2.2.2.2.2.1, if_neg (by decide)]
      exact ⟨m1, rfl, e2, c2.tr e3⟩
    · rw [if_neg (kne (v := 2) (b := 2) rfl (by omega) (by omega) h2), if_neg h2]
      unfold B_X11_want_57
      rw [c1.2.2.2.2.2.1, if_pos nI_0]
      exact ⟨_, rfl, c1, c2⟩
