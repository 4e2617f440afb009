/-! ===== L2: the reference's run: starts ===== -/
theorem xrun_len {W : Nat → Sg → Nat × Sg} {B : Nat → Int32} {P : List Enm} {e c c0 so : Nat} {E : Enm} : ∀ (ops : List Op) (vs : List Int32) (g : Sg), (∀ o ∈ ops, opB o) → dp vs.length ops = some 1 → vs.length ≤ 21 → (xrun W B P e E c (ops.map (kox e so c0)) vs g).1 = 0 → ∃ v, (xrun W B P e E c (ops.map (kox e so c0)) vs g).2.1 = [v] := by
  intro ops
  induction ops with
  | nil =>
    intro vs g _ hdp _ _
    simp only [dp, Option.some.injEq] at hdp
    cases vs with
    | nil => simp at hdp
    | cons v l =>
      cases l with
      | nil => exact ⟨v, rfl⟩
      | cons x l => simp at hdp
  | cons o ops ih =>
    intro vs g hob hdp hv hk
    rw [List.map_cons, xrun] at hk ⊢
    have ho := hob o (by simp)
    by_cases k : (xop W B P e E c (kox e so c0 o) vs g).1 = 0
    · rw [if_pos k] at hk ⊢
      obtain ⟨l1, l2⟩ := xop_len (r := ops) ⟨ho.1, ho.2.1⟩ hdp hv k
      exact ih _ _ (fun x hx => hob x (by simp [hx])) l1 l2 hk
    · rw [if_neg k] at hk
      exact absurd hk k
theorem mr_run {G : GG} {m : MM} {d tt e c a so D dd : Nat} {B : Nat → Int32} {K : List Ko} {P : List Enm} {E : Enm} {fr : List Fr} {ss : List Int32} {g : Sg} {fc : Int32} (hO : OKP B P K) (hK : (aK K).length ≤ 2000) (hR : HR G d tt B K P D dd (wnt B P K D)) (hE : P[e]? = some E) (hp : ptr K a e so) (hcc : so ≠ 1 → c < E.2.1.length) (hf : FOK P fr) (hl : fr.length ≤ 2 * dd) (hd8 : dd ≤ 8) (hss : ss.length ≤ 21 * dd) (h : RC G m d tt B K P g ((e, c, some (ct K a, ct K a + (seg K a).length)) :: fr) ss 0 fc) (hI : ISg P g) (hst : g.1 e = 3 ∨ g.1 e = 1) (hs0 : so = 0 → g.1 e = 1) (hz : zc g < D) (hd : dd + zc g ≤ 8) : RES G d tt B K P m g ((e, c, some (ct K a + (seg K a).length, ct K a + (seg K a).length)) :: fr) ((xrun (wnt B P K D) B P e E c (seg K a) [] g).2.1 ++ ss) fc 4000 (xrun (wnt B P K D) B P e E c (seg K a) [] g).1 (xrun (wnt B P K D) B P e E c (seg K a) [] g).2.2 (ens fr) ∧ ((xrun (wnt B P K D) B P e E c (seg K a) [] g).1 = 0 → ∃ v, (xrun (wnt B P K D) B P e E c (seg K a) [] g).2.1 = [v]) ∧ ct K a + (seg K a).length < 3000 := by
  obtain ⟨ops, c0, h1, h2⟩ := hp
  have hb := map_op (by obtain ⟨pre, post', st, k1, k2, k3, k4⟩ := h1; exact k4)
  obtain ⟨a1, a2⟩ := h1.act
  rw [List.length_map] at a2
  rw [h1.seg] at h ⊢
  rw [List.length_map] at h ⊢
  refine ⟨?_, fun z => xrun_len ops [] g hb h2 (by simp) z, by omega⟩
  obtain ⟨m1, j, r1, r2, r3, r4, r5⟩ := mr_exp (c0 := c0) hO hK hR hE hcc hf hl hd8 hss (by omega) ops (ct K a) [] g m (fun i o ho => a1 i _ (by rw [List.getElem?_map, ho]; rfl)) rfl h2 (by simp) h hI hst hs0 hz hd
  exact ⟨m1, j, r1, r2, by omega, r4, r5⟩
theorem mr_mkr {G : GG} {m : MM} {d tt e c D dd : Nat} {B : Nat → Int32} {K : List Ko} {P : List Enm} {E : Enm} {fr : List Fr} {ss : List Int32} {g : Sg} {fc : Int32} (hO : OKP B P K) (hK : (aK K).length ≤ 2000) (hR : HR G d tt B K P D dd (wnt B P K D)) (hE : P[e]? = some E) (hc : c < E.2.1.length) (hf : FOK P ((e, 0, none) :: fr)) (hl : fr.length + 1 ≤ 2 * dd) (hd8 : dd ≤ 8) (hss : ss.length ≤ 21 * dd) (h : RC G m d tt B K P g ((e, 0, none) :: fr) ss 0 fc) (hI : ISg P g) (h3 : g.1 e = 3) (hfar : g.2.1 e = c) (hz : zc g < D) (hd : dd + zc g ≤ 8) : RES G d tt B K P m g ((e, 0, none) :: fr) ss fc 4010 (mkr (wnt B P K D) B P K e E c g).1 (mkr (wnt B P K D) B P K e E c g).2 (e :: ens fr) := by
  have hP := hO.1
  obtain ⟨b1, b2, b3, b4, b5, b6, b7⟩ := pb_en hP hE
  have hL := h.1.1
  have htt := h.1.2.2.1
  obtain ⟨n1, n2, n3⟩ := h.num hE
  have hfa : gI m (d + 45) e = nI c := by rw [(h.2.1 e E hE).2.1 h3, hfar]
  have goon : ∀ {X : Option (Unit × MM)}, (nb (gR m d 12) fun b_11 => ib (nI (8 * tt + e)) (G.2.2 b_11) <| if 0 ≤ (gI m b_11 ((nI (8 * tt + e)).toNatClampNeg)) then ib (nI (8 * tt + e)) (G.2.2 b_11) <| nb (gR m d 13) fun b_12 => ib (nI (8 * tt + e)) (G.2.2 b_12) <| bd (M_X11_pushFrame G d (nI e) (nI c) (gI m b_11 ((nI (8 * tt + e)).toNatClampNeg)) (gI m b_12 ((nI (8 * tt + e)).toNatClampNeg)) m) fun _ m_14 => some ((), m_14) else bd (M_X11_made G d (nI e) 0 m) fun _ m_16 => some ((), m_16)) = X → M_X11_goOn G d (nI e) m = X := fun {X} hX => by
    unfold M_X11_goOn
    rw [nb_e (mr_59 hL), mz_59 hL, ib_n (by omega) (by omega), nb_e (mr_9 hL), h.1.2.1, show (8 : Int32) = nI 8 from rfl, pk_mul, nI_add, mz_9 hL, ib_n (by omega) (by omega), nI_clamp (n := e) (by omega), hfa]
    rw [show gI m (d + 6) (nI (8 * tt + e)).toNatClampNeg = nI E.2.1.length by rw [nI_clamp (by omega)]; exact n1, if_neg (fun z => absurd ((nI_leI (by omega) (by omega)).mp z) (by omega))]
    exact hX
  have cl : (nI (8 * tt + e)).toNatClampNeg = 8 * tt + e := nI_clamp (by omega)
  have qk := n3.2.2.2.2.2
  unfold mkr
  rcases mks_one hO hE with hm | ⟨q, hm, hp, hq⟩
  · rw [hm] at qk ⊢
    obtain ⟨m1, e1, e2, e3⟩ := mr_madeC (v := 0) hP h hE h3 hfar hc
    have hg := goon (X := some ((), m1)) (by rw [nb_e (mr_12 hL), mz_12 hL, ib_n (by omega) (by omega), cl, qk.1, if_neg (by decide), bd_e e1])
    have gz := (mkd_ge (v := 0) hE h3 hfar hc).1.zc
    exact ⟨m1, 1, wk_go h (by omega) hg, e3, by dsimp only; omega, fun _ => e2, fun z => absurd rfl z⟩
  · rw [hm] at qk ⊢
    obtain ⟨⟨s, k1, k2, k3⟩, -⟩ := qk
    have es := k1.seg
    rw [← es] at k3
    have hctl := k1.act.2
    rw [← es] at hctl
    obtain ⟨m1, e1, e2, e3⟩ := mr_frame (e := e) (c := c) (y := some (ct K q.2.2.2, ct K q.2.2.2 + (seg K q.2.2.2).length)) h (by rw [List.length_cons]; omega) ⟨rfl, rfl⟩
    have hg := goon (X := some ((), m1)) (by rw [nb_e (mr_12 hL), mz_12 hL, ib_n (by omega) (by omega), cl, k2, if_pos (nI_pos' (by omega)), ib_n (by omega) (by omega), nb_e (mr_13 hL), mz_13 hL, ib_n (by omega) (by omega), k3, bd_e e1])
    have go1 := wk_go h (by omega) hg
    obtain ⟨⟨m2, j, r1, r2, r3, r4, r5⟩, r6, r7⟩ := mr_run (c := c) hO hK hR hE hp (fun _ => hc) hf (by rw [List.length_cons]; omega) hd8 hss e2 hI (Or.inl h3) (fun z => by omega) hz hd
    have gs := xrun_gs (B := B) (e := e) (c := c) (E := E) (wnt_gs (B := B) (P := P) (K := K) D) (seg K q.2.2.2) [] g
    have hk := gs.1 e (by omega)
    dsimp only
    by_cases k : (xrun (wnt B P K D) B P e E c (seg K q.2.2.2) [] g).1 = 0
    · rw [if_pos k]
      obtain ⟨v, hv⟩ := r6 k
      have r4 := r4 k
      rw [hv] at r4 ⊢
      obtain ⟨m3, t1, t2, t3⟩ := wk_end (st := ss) r4 (by omega) r7 (by omega)
      obtain ⟨m4, u1, u2, u3⟩ := mr_madeC (v := v) hP t1 hE (hk.1.trans h3) (hk.2.1.trans hfar) hc
      have gz := (mkd_ge (v := v) hE (hk.1.trans h3) (hk.2.1.trans hfar) hc).1.zc
      exact ⟨m4, 1 + (j + 1), (go1.tr r1).tr (t3 m4 u1), e3.tr (r2.tr (t2.tr u3)), by dsimp only [xhd]; omega, fun _ => u2, fun z => absurd rfl z⟩
    · rw [if_neg k]
      exact ⟨m2, j + 1, go1.tr r1, e3.tr r2, by dsimp only; omega, fun z => absurd z k, r5⟩
theorem mr_mkl {G : GG} {d tt e D dd : Nat} {B : Nat → Int32} {K : List Ko} {P : List Enm} {E : Enm} {fr : List Fr} {ss : List Int32} {fc : Int32} (hO : OKP B P K) (hK : (aK K).length ≤ 2000) (hR : HR G d tt B K P D dd (wnt B P K D)) (hE : P[e]? = some E) (hf : FOK P ((e, 0, none) :: fr)) (hl : fr.length + 1 ≤ 2 * dd) (hd8 : dd ≤ 8) (hss : ss.length ≤ 21 * dd) : ∀ (k c : Nat) (g : Sg) (m : MM), c + k = E.2.1.length → RC G m d tt B K P g ((e, 0, none) :: fr) ss 0 fc → ISg P g → g.1 e = 3 → g.2.1 e = c → zc g < D → dd + zc g ≤ 8 → RES G d tt B K P m g ((e, 0, none) :: fr) ss fc (4010 * k) (mkl (wnt B P K D) B P K e E k c g).1 (mkl (wnt B P K D) B P K e E k c g).2 (e :: ens fr) := by
  intro k
  induction k with
  | zero =>
    intro c g m hc h hI h3 hfar hz hd
    exact ⟨m, 0, Go.rf, OMr.rf, by show 0 + 80000 * zc g ≤ 4010 * 0 + 80000 * zc g; omega, fun _ => h, fun z => absurd rfl z⟩
  | succ k ih =>
    intro c g m hc h hI h3 hfar hz hd
    obtain ⟨m1, j, r1, r2, r3, r4, r5⟩ := mr_mkr (c := c) hO hK hR hE (by omega) hf hl hd8 hss h hI h3 hfar hz hd
    obtain ⟨a1, a2⟩ := mkr_ge (B := B) (K := K) (wnt_gs D) hE h3 hfar (by omega)
    have hzz := a1.zc
    rw [mkl]
    by_cases w : (mkr (wnt B P K D) B P K e E c g).1 = 0
    · rw [if_pos w]
      obtain ⟨m2, j2, s1, s2, s3, s4, s5⟩ := ih (c + 1) _ m1 (by omega) (r4 w) (a1.2.2 hI) (a1.2.1.trans h3) (a2 w) (by omega) (by omega)
      exact ⟨m2, j2 + j, r1.tr s1, r2.tr s2, by omega, s4, s5⟩
    · rw [if_neg w]
      exact ⟨m1, j, r1, r2, by omega, fun z => absurd z w, r5⟩
theorem mr_sfl {G : GG} {m : MM} {d tt e f D dd : Nat} {B : Nat → Int32} {K : List Ko} {P : List Enm} {E : Enm} {y : Mem} {fr : List Fr} {ss : List Int32} {g : Sg} {fc : Int32} (hO : OKP B P K) (hK : (aK K).length ≤ 2000) (hR : HR G d tt B K P D dd (wnt B P K D)) (hE : P[e]? = some E) (hy : (fls E.2.2)[f]? = some y) (hf : FOK P ((e, 0, none) :: fr)) (hl : fr.length + 1 ≤ 2 * dd) (hd8 : dd ≤ 8) (hss : ss.length ≤ 21 * dd) (h : RC G m d tt B K P g ((e, 0, none) :: fr) ss 0 fc) (hI : ISg P g) (h3 : g.1 e = 3) (hfar : g.2.1 e = E.2.1.length + f) (hz : zc g < D) (hd : dd + zc g ≤ 8) : RES G d tt B K P m g ((e, 0, none) :: fr) ss fc 4010 (sfl (wnt B P K D) B P K e E f y g).1 (sfl (wnt B P K D) B P K e E f y g).2 (e :: ens fr) := by
  have hP := hO.1
  obtain ⟨b1, b2, b3, b4, b5, b6, b7⟩ := pb_en hP hE
  have hL := h.1.1
  have htt := h.1.2.2.1
  have hfl := get_lt hy
  obtain ⟨y1, y2⟩ := List.mem_filter.mp (List.mem_of_getElem? hy)
  simp only [Bool.or_eq_true, decide_eq_true_eq] at y2
  obtain ⟨n1, n2, n3⟩ := h.num hE
  have hfa : gI m (d + 45) e = nI (E.2.1.length + f) := by rw [(h.2.1 e E hE).2.1 h3, hfar]
  have cl : (nI (8 * tt + e)).toNatClampNeg = 8 * tt + e := nI_clamp (by omega)
  obtain ⟨k1, k2, k3, k4⟩ := n3.2.2.2.2.1.2 f y hy
  have ix : nI (6 * (8 * tt + e)) + nI (E.2.1.length + f) - nI E.2.1.length = nI (6 * (8 * tt + e) + f) := by rw [nI_add, pk_sub (by omega), show 6 * (8 * tt + e) + (E.2.1.length + f) - E.2.1.length = 6 * (8 * tt + e) + f by omega]
  have cl2 : (nI (6 * (8 * tt + e) + f)).toNatClampNeg = 6 * (8 * tt + e) + f := nI_clamp (by omega)
  have goon : ∀ {X : Option (Unit × MM)}, (nb (gR m d 25) fun b_7 => ib (nI (6 * (8 * tt + e) + f)) (G.2.2 b_7) <| if 0 ≤ (gI m b_7 (6 * (8 * tt + e) + f)) then ib (nI (6 * (8 * tt + e) + f)) (G.2.2 b_7) <| nb (gR m d 26) fun b_8 => ib (nI (6 * (8 * tt + e) + f)) (G.2.2 b_8) <| bd (M_X11_pushFrame G d (nI e) 0 (gI m b_7 (6 * (8 * tt + e) + f)) (gI m b_8 (6 * (8 * tt + e) + f)) m) fun _ m_10 => some ((), m_10) else some ((), sI m (d + 45) e (nI (E.2.1.length + f + 1)))) = X → M_X11_goOn G d (nI e) m = X := fun {X} hX => by
    unfold M_X11_goOn
    rw [nb_e (mr_59 hL), mz_59 hL, ib_n (by omega) (by omega), nb_e (mr_9 hL), h.1.2.1, show (8 : Int32) = nI 8 from rfl, pk_mul, nI_add, mz_9 hL, ib_n (by omega) (by omega), nI_clamp (n := e) (by omega), hfa, cl, n1, if_pos ((nI_leI (by omega) (by omega)).mpr (by omega)), ib_n (by omega) (by omega), nb_e (mr_11 hL), mz_11 hL, ib_n (by omega) (by omega), n2, nI_add, if_neg (fun z => absurd ((nI_leI (by omega) (by omega)).mp z) (by omega)), ib_n (by omega) (by omega), show (6 : Int32) = nI 6 from rfl, pk_mul, ix, cl2, ib_n (n := 8) (by omega) (by omega), ib_n (n := 8) (by omega) (by omega), nI_1]
    exact hX
  unfold sfl
  by_cases y8 : y.1 = 8
  · rw [if_pos y8]
    obtain ⟨q1, q2⟩ := k3 y8
    obtain ⟨c1, c2⟩ := h.farF (v := 0) hP hE hy h3 hfar (Or.inl ⟨y8, rfl, rfl⟩)
    have hg := goon (X := some ((), sI m (d + 45) e (nI (E.2.1.length + f + 1)))) (by rw [nb_e (mr_25 hL), mz_25 hL, ib_n (by omega) (by omega), q1, if_neg (by decide)])
    have gz := (sfl_ge (B := B) (K := K) (y := y) (wnt_gs (B := B) (P := P) (K := K) D) hE h3 hfar hfl).1.zc
    unfold sfl at gz
    rw [if_pos y8] at gz
    exact ⟨_, 1, wk_go h (by omega) hg, c2, by dsimp only at gz ⊢; omega, fun _ => c1, fun z => absurd rfl z⟩
  · rw [if_neg y8]
    obtain ⟨s, q1, q2, q3⟩ := k4 (by omega)
    have es := q1.seg
    rw [← es] at q3
    have hctl := q1.act.2
    rw [← es] at hctl
    have hp : ptr K y.2.2.2 e 1 := ((hO.2.2.2.1 e E hE).2.2 y y1).2.1 (by omega)
    obtain ⟨m1, e1, e2, e3⟩ := mr_frame (e := e) (c := 0) (y := some (ct K y.2.2.2, ct K y.2.2.2 + (seg K y.2.2.2).length)) h (by rw [List.length_cons]; omega) ⟨rfl, rfl⟩
    rw [nI_0] at e1
    have hg := goon (X := some ((), m1)) (by rw [nb_e (mr_25 hL), mz_25 hL, ib_n (by omega) (by omega), q2, if_pos (nI_pos' (by omega)), ib_n (by omega) (by omega), nb_e (mr_26 hL), mz_26 hL, ib_n (by omega) (by omega), q3, bd_e e1])
    have go1 := wk_go h (by omega) hg
    obtain ⟨⟨m2, j, r1, r2, r3, r4, r5⟩, r6, r7⟩ := mr_run (c := 0) hO hK hR hE hp (fun z => absurd rfl z) hf (by rw [List.length_cons]; omega) hd8 hss e2 hI (Or.inl h3) (fun z => by omega) hz hd
    have gs := xrun_gs (B := B) (e := e) (c := 0) (E := E) (wnt_gs (B := B) (P := P) (K := K) D) (seg K y.2.2.2) [] g
    have hk := gs.1 e (by omega)
    have gz := (sfl_ge (B := B) (K := K) (y := y) (wnt_gs (B := B) (P := P) (K := K) D) hE h3 hfar hfl).1.zc
    unfold sfl at gz
    rw [if_neg y8] at gz
    by_cases k : (xrun (wnt B P K D) B P e E 0 (seg K y.2.2.2) [] g).1 = 0
    · rw [if_pos k] at gz ⊢
      obtain ⟨v, hv⟩ := r6 k
      have r4 := r4 k
      rw [hv] at r4 gz ⊢
      obtain ⟨m3, t1, t2, t3⟩ := wk_end (st := ss) r4 (by omega) r7 (by omega)
      obtain ⟨m4, u1, u2, u3⟩ := mr_madeF (v := v) hP t1 hE hy (hk.1.trans h3) (hk.2.1.trans hfar)
      have gz2 : zc (faS (flS (xrun (wnt B P K D) B P e E 0 (seg K y.2.2.2) [] g).2.2 e f v) e (E.2.1.length + f + 1)) = zc (xrun (wnt B P K D) B P e E 0 (seg K y.2.2.2) [] g).2.2 := rfl
      exact ⟨m4, 1 + (j + 1), (go1.tr r1).tr (t3 m4 u1), e3.tr (r2.tr (t2.tr u3)), by dsimp only [xhd]; omega, fun _ => u2, fun z => absurd rfl z⟩
    · rw [if_neg k]
      exact ⟨m2, j + 1, go1.tr r1, e3.tr r2, by dsimp only; omega, fun z => absurd z k, r5⟩
