/-! ===== L2: the class's Runner: starts ===== -/
/-- a program that can run -/
def OKP (B : Nat → Int32) (P : List Enm) (K : List Ko) : Prop := PB P ∧ KB P.length K ∧ GC K P ∧ (∀ e E, P[e]? = some E → EI K e E) ∧ (∀ x, ¬ NR B K P x) ∧ K.length ≤ 2000
theorem OKP.q {B : Nat → Int32} {P : List Enm} {K : List Ko} (h : OKP B P K) : ∀ q ∈ aK K, okQ B P q := fun _ hq => okq h.2.1 hq h.2.2.2.2.1
theorem SG.drop {K : List Ko} {a : Nat} {s : List Ko} (h : SG K a s) : ∃ z post, K.drop a = s ++ z :: post ∧ z.1.1 = 0 := by
  obtain ⟨pre, post, st, h1, h2, h3, h4⟩ := h
  refine ⟨st, post, ?_, h3⟩
  rw [h1, List.append_assoc, ← h2, List.drop_left]
theorem tw_all : ∀ (s : List Ko) (z : Ko) (post : List Ko), (∀ q ∈ s, opB q.1) → z.1.1 = 0 → (s ++ z :: post).takeWhile (fun q => !decide (q.1.1 = 0)) = s := by
  intro s
  induction s with
  | nil => intro z post _ hz; rw [List.nil_append, List.takeWhile_cons]; simp [hz]
  | cons q s ih =>
    intro z post h hz
    have := (h q (by simp)).1
    rw [List.cons_append, List.takeWhile_cons, ih z post (fun x hx => h x (by simp [hx])) hz]
    rw [if_pos (by simp; omega)]
theorem SG.seg {K : List Ko} {a : Nat} {s : List Ko} (h : SG K a s) : seg K a = s := by
  obtain ⟨z, post, h1, h2⟩ := h.drop
  obtain ⟨pre, post', st, k1, k2, k3, k4⟩ := h
  show (K.drop a).takeWhile _ = s
  rw [h1]
  exact tw_all s z post k4 h2
theorem SG.lt {K : List Ko} {a : Nat} {s : List Ko} (h : SG K a s) : a + s.length < K.length := by
  obtain ⟨pre, post, st, h1, h2, h3, h4⟩ := h
  rw [h1]
  simp only [List.length_append, List.length_cons]
  omega
theorem map_op {e so c : Nat} {ops : List Op} (h : ∀ q ∈ ops.map (kox e so c), opB q.1) : ∀ o ∈ ops, opB o := fun o ho => h (kox e so c o) (List.mem_map.mpr ⟨o, ho, rfl⟩)
theorem cr_work {G : GG} {m : MM} {n pl tl len : Nat} {B : Nat → Int32} {P : List Enm} {K : List Ko} {gc : Nat → Nat → Nat → Int32} {D dd e so c a : Nat} {x3 : Int32} {fw : Nat → Int32 → Int32 → MM → Option (Bool × MM)} {W : Nat → Sg → Nat × Sg} {E : Enm} {g : Sg} {ss : List Int32} (hN : PN n pl) (hT : TT n tl) (hO : OKP B P K) (hfw : HC G n pl tl len B P K gc D dd fw W) (hW : HW P W) (hk6 : HK W) (hE : P[e]? = some E) (hp : ptr K a e so) (hx3 : so ≠ 1 → x3 = nI c ∧ c < E.2.1.length) (hss : ss.length ≤ 21 * dd) (hd8 : dd ≤ 8) (h : CX G m n pl tl len B P K gc g 0 ss) (hI : ISg P g) (hz : zc g < D) (hd : dd + zc g ≤ 8) : ∃ v m1, M_X7_work G fw (n + 210) (nI a) (pl + 4 + 12 * e) x3 (nI dd) m = some (v, m1) ∧ CX G m1 n pl tl len B P K gc (xrun W B P e E c (seg K a) [] g).2.2 (xrun W B P e E c (seg K a) [] g).1 ss ∧ OX m m1 n pl ∧ ((xrun W B P e E c (seg K a) [] g).1 = 0 → v = xhd (xrun W B P e E c (seg K a) [] g).2.1) := by
  obtain ⟨ops, c0, h1, h2⟩ := hp
  have hb := map_op (by obtain ⟨pre, post', st, k1, k2, k3, k4⟩ := h1; exact k4)
  have hlt := h1.lt
  have hKl := hO.2.2.2.2.2
  rw [List.length_map] at hlt
  unfold M_X7_work
  rw [h.2.2.2.2.2.1, h1.seg]
  exact cr_loop hN hT hfw hW hE hO.q hk6 hx3 hss hd8 hKl ops FU a [] g m h1.drop hb h2 (by simp) (by unfold FU; omega) h hI hz hd
theorem mks_one {B : Nat → Int32} {P : List Enm} {K : List Ko} {e : Nat} {E : Enm} (hO : OKP B P K) (hE : P[e]? = some E) : mks E.2.2 = [] ∨ ∃ q, mks E.2.2 = [q] ∧ ptr K q.2.2.2 e 2 ∧ q.2.2.2 ≤ 2000 := by
  cases hm : mks E.2.2 with
  | nil => exact Or.inl rfl
  | cons a l =>
    cases l with
    | nil =>
      have ha : a ∈ mks E.2.2 := by rw [hm]; simp
      obtain ⟨a1, a2⟩ := List.mem_filter.mp ha
      exact Or.inr ⟨a, rfl, ((hO.2.2.2.1 e E hE).2.2 a a1).2.2 (of_decide_eq_true a2), ((hO.1.2 E (List.mem_of_getElem? hE)).2.2.2.2.2 a a1).2.2.2.2⟩
    | cons b l => exact absurd (Or.inl ⟨e, E, hE, Or.inr (Or.inl ⟨a, b, l, hm, rfl⟩)⟩) (hO.2.2.2.2.1 (2, b.2.1))
theorem nI_m1 {n : Nat} (h : n < 2 ^ 31) : ¬ nI n = -1 := fun w => nI_pos h (by rw [w]; decide)
theorem cr_make24 {G : GG} {m : MM} {n pl tl len : Nat} {B : Nat → Int32} {P : List Enm} {K : List Ko} {gc : Nat → Nat → Nat → Int32} {e c : Nat} {v : Int32} {fw : Nat → Int32 → Int32 → MM → Option (Bool × MM)} {E : Enm} {g : Sg} {ss : List Int32} (hN : PN n pl) (hT : TT n tl) (hE : P[e]? = some E) (hc : c < E.2.1.length) (h : CX G m n pl tl len B P K gc g 0 ss) : ∃ m1, B_X7_make_24 G fw (n + 210) (nI e) (pl + 4 + 12 * e) (nI c) v m = some ((), m1) ∧ CX G m1 n pl tl len B P K gc (mkd e c v g) 0 ss ∧ OX m m1 n pl := by
  obtain ⟨b1, b2, b3, b4, b5, b6, b7⟩ := pb_en h.1.2.2.2.2.2.1 hE
  have he := get_lt hE
  have hl9 := cv_le h.1 he 9 (by omega)
  have hz9 : G.2.2 (pl + 4 + 12 * e + 1 + 9) = 12 := hl9.2
  unfold B_X7_make_24
  rw [h.2.2.2.2.1, if_pos nI_0, bd_e (cv_hasC h.1 hE hc), if_pos rfl, nb_e hl9.1, hz9, ib_n (by omega) (by omega), nI_clamp (by omega), show pl + 4 + 12 * e + 1 + 9 = pl + 4 + 12 * e + 10 by omega, nI_1, show (1000 : Int32) = nI 1000 from rfl, pk_mul, nI_1, nI_add]
  have o : OX m (sI (sI m (pl + 4 + 12 * e + 10) c v) (pl + 4 + 12 * e) 18 (nI (c + 1))) n pl := (OX.v b1 (Or.inr rfl)).tr (OX.e b1 (Or.inr rfl))
  have h1 : CX G (sI (sI m (pl + 4 + 12 * e + 10) c v) (pl + 4 + 12 * e) 18 (nI (c + 1))) n pl tl len B P K gc (faS (vaS g e c v) e (c + 1)) 0 ss := by
    refine CX.enm (e := e) hN hT h o (fun a x y z => by rw [sI_ne x, sI_ne z]) he (fun x hx => ⟨rfl, up_n hx, fun y => up2_n (Or.inl hx), fun _ => rfl⟩) rfl (fun X hX => ?_)
    rw [hE] at hX
    cases hX
    obtain ⟨s1, s2, s3, s4⟩ := h.2.1 e E hE
    refine ⟨?_, ?_, fun c' hc' => ?_, fun i q hq => ?_⟩
    · rw [gI_sI_ne (Or.inr (by omega)), gI_sI_ne (Or.inl (by omega))]
      exact s1
    · rw [gI_sI_eq, show (faS (vaS g e c v) e (c + 1)).2.1 e = c + 1 from up_e, Nat.min_eq_left (by omega)]
    · rw [gI_sI_ne (Or.inl (by omega))]
      by_cases w : c' = c
      · rw [w, gI_sI_eq]
        exact up2_e.symm
      · rw [gI_sI_ne (Or.inr w), s3 c' hc']
        exact (up2_n (Or.inr w)).symm
    · rw [gI_sI_ne (Or.inl (by omega)), gI_sI_ne (Or.inl (by omega))]
      exact s4 i q hq
  obtain ⟨m1, e1, e2, e3⟩ := cr_trace (v := nI (1000 * e + 1 + c)) hN hT h1
  rw [bd_e e1]
  exact ⟨m1, rfl, e2, o.tr e3⟩
theorem cr_24f {G : GG} {m : MM} {n pl tl len : Nat} {B : Nat → Int32} {P : List Enm} {K : List Ko} {gc : Nat → Nat → Nat → Int32} {x1 x3 v : Int32} {x2 k : Nat} {fw : Nat → Int32 → Int32 → MM → Option (Bool × MM)} {g : Sg} {ss : List Int32} (h : CX G m n pl tl len B P K gc g k ss) (hk : k ≠ 0) (hk6 : k ≤ 6) : B_X7_make_24 G fw (n + 210) x1 x2 x3 v m = some ((), m) := by
  unfold B_X7_make_24
  rw [h.2.2.2.2.1, if_neg (kne (v := 0) (b := 0) nI_0.symm (by omega) (by omega) hk)]
theorem cr_make {G : GG} {m : MM} {n pl tl len : Nat} {B : Nat → Int32} {P : List Enm} {K : List Ko} {gc : Nat → Nat → Nat → Int32} {D dd e c : Nat} {fw : Nat → Int32 → Int32 → MM → Option (Bool × MM)} {W : Nat → Sg → Nat × Sg} {E : Enm} {g : Sg} {ss : List Int32} (hN : PN n pl) (hT : TT n tl) (hO : OKP B P K) (hfw : HC G n pl tl len B P K gc D dd fw W) (hW : HW P W) (hk6 : HK W) (hE : P[e]? = some E) (hc : c < E.2.1.length) (hss : ss.length ≤ 21 * dd) (hd8 : dd ≤ 8) (h : CX G m n pl tl len B P K gc g 0 ss) (hI : ISg P g) (hz : zc g < D) (hd : dd + zc g ≤ 8) : ∃ m1, M_X7_make G fw (n + 210) (nI e) (pl + 4 + 12 * e) (nI c) (nI dd) m = some ((), m1) ∧ CX G m1 n pl tl len B P K gc (mkr W B P K e E c g).2 (mkr W B P K e E c g).1 ss ∧ OX m m1 n pl := by
  have h16 : gI m (pl + 4 + 12 * e) 16 = mkC E.2.2 := (h.1.2.2.2.2.2.2 e E hE).2.1.2.2.2.2.2.1
  unfold M_X7_make mkr
  rcases mks_one hO hE with hm | ⟨q, hm, hp, hq⟩
  · rw [h16, show mkC E.2.2 = -1 by unfold mkC; rw [hm]; rfl, if_pos rfl, hm]
    exact cr_make24 hN hT hE hc h
  · have e16 : mkC E.2.2 = nI q.2.2.2 := by unfold mkC; rw [hm]; rfl
    rw [h16, e16, if_neg (nI_m1 (by omega)), hm]
    dsimp only
    obtain ⟨v, m1, f1, f2, f3, f4⟩ := cr_work (c := c) (x3 := nI c) hN hT hO hfw hW hk6 hE hp (fun _ => ⟨rfl, hc⟩) hss hd8 h hI hz hd
    rw [bd_e f1]
    by_cases k : (xrun W B P e E c (seg K q.2.2.2) [] g).1 = 0
    · rw [if_pos k]
      rw [k] at f2
      obtain ⟨m2, g1, g2, g3⟩ := cr_make24 (v := v) (fw := fw) hN hT hE hc f2
      rw [f4 k] at g1 g2
      rw [f4 k]
      exact ⟨m2, g1, g2, f3.tr g3⟩
    · rw [if_neg k]
      exact ⟨m1, cr_24f f2 k (xrun_k hk6 _ _ _), f2, f3⟩
theorem cr_set {G : GG} {m : MM} {n pl tl len : Nat} {B : Nat → Int32} {P : List Enm} {K : List Ko} {gc : Nat → Nat → Nat → Int32} {D dd e f : Nat} {fw : Nat → Int32 → Int32 → MM → Option (Bool × MM)} {W : Nat → Sg → Nat × Sg} {E : Enm} {y : Mem} {g : Sg} {ss : List Int32} (hN : PN n pl) (hT : TT n tl) (hO : OKP B P K) (hfw : HC G n pl tl len B P K gc D dd fw W) (hW : HW P W) (hk6 : HK W) (hE : P[e]? = some E) (hy : (fls E.2.2)[f]? = some y) (hfar : g.2.1 e = E.2.1.length + f) (h3 : g.1 e = 3) (hss : ss.length ≤ 21 * dd) (hd8 : dd ≤ 8) (h : CX G m n pl tl len B P K gc g 0 ss) (hI : ISg P g) (hz : zc g < D) (hd : dd + zc g ≤ 8) : ∃ m1, M_X7_set G fw (n + 210) (pl + 4 + 12 * e) (nI f) (nI dd) m = some ((), m1) ∧ CX G m1 n pl tl len B P K gc (sfl W B P K e E f y g).2 (sfl W B P K e E f y g).1 ss ∧ OX m m1 n pl := by
  obtain ⟨b1, b2, b3, b4, b5, b6, b7⟩ := pb_en h.1.2.2.2.2.2.1 hE
  have he := get_lt hE
  have hfl := get_lt hy
  obtain ⟨y1, y2⟩ := List.mem_filter.mp (List.mem_of_getElem? hy)
  simp only [Bool.or_eq_true, decide_eq_true_eq] at y2
  -- how far it is, beyond the constants
  have far : ∀ {m : MM} {g : Sg}, CX G m n pl tl len B P K gc g 0 ss → g.2.1 e = E.2.1.length + f → CX G m n pl tl len B P K gc (faS g e (E.2.1.length + f + 1)) 0 ss := fun {m g} h hfar => by
    refine CX.enm (e := e) hN hT h OX.rf (fun _ _ _ _ => rfl) he (fun x hx => ⟨rfl, up_n hx, fun _ => rfl, fun _ => rfl⟩) rfl (fun X hX => ?_)
    rw [hE] at hX
    cases hX
    obtain ⟨s1, s2, s3, s4⟩ := h.2.1 e E hE
    refine ⟨s1, ?_, s3, s4⟩
    rw [show (faS g e (E.2.1.length + f + 1)).2.1 e = E.2.1.length + f + 1 from up_e, s2, hfar, Nat.min_eq_right (by omega), Nat.min_eq_right (by omega)]
  unfold M_X7_set sfl
  rw [bd_e (cv_wrk h.1 hE hy)]
  by_cases y8 : y.1 = 8
  · rw [if_neg (by simp; omega), if_pos y8]
    exact ⟨m, rfl, far h hfar, OX.rf⟩
  · have hp : ptr K y.2.2.2 e 1 := ((hO.2.2.2.1 e E hE).2.2 y y1).2.1 (by omega)
    have hl7 := cv_le h.1 he 7 (by omega)
    have hz7 : G.2.2 (pl + 4 + 12 * e + 1 + 7) = 6 := hl7.2
    have hy7 : y.1 = 7 := by omega
    have h8 : gI m (pl + 4 + 12 * e + 8) f = nI y.2.2.2 := by
      rw [((h.1.2.2.2.2.2.2 e E hE).2.1.2.2.2.2.2.2.2.2.1 f y hy).2, if_pos hy7]
    rw [if_pos (decide_eq_true hy7), if_neg y8, nb_e hl7.1, hz7, ib_n (by omega) (by omega), nI_clamp (by omega), show pl + 4 + 12 * e + 1 + 7 = pl + 4 + 12 * e + 8 by omega, h8]
    obtain ⟨v, m1, f1, f2, f3, f4⟩ := cr_work (c := 0) (x3 := -1) hN hT hO hfw hW hk6 hE hp (fun z => absurd rfl z) hss hd8 h hI hz hd
    rw [bd_e f1, f2.2.2.2.2.1]
    have hgs := (xrun_gs (B := B) (e := e) (c := 0) (E := E) hW (seg K y.2.2.2) [] g).1 e (by omega)
    by_cases k : (xrun W B P e E 0 (seg K y.2.2.2) [] g).1 = 0
    · rw [if_pos k, k, if_pos nI_0]
      rw [k] at f2
      have hl8 := cv_le f2.1 he 8 (by omega)
      have hz8 : G.2.2 (pl + 4 + 12 * e + 1 + 8) = 6 := hl8.2
      rw [nb_e hl8.1, hz8, ib_n (by omega) (by omega), show pl + 4 + 12 * e + 1 + 8 = pl + 4 + 12 * e + 9 by omega, ← f4 k]
      have o : OX m1 (sI m1 (pl + 4 + 12 * e + 9) f v) n pl := OX.v b1 (Or.inl rfl)
      refine ⟨_, rfl, far ?_ (by show (xrun W B P e E 0 (seg K y.2.2.2) [] g).2.2.2.1 e = _; rw [hgs.2.1]; exact hfar), f3.tr o⟩
      refine CX.enm (e := e) hN hT f2 o (fun a _ z _ => by rw [sI_ne z]) he (fun x hx => ⟨rfl, rfl, fun _ => rfl, fun y => up2_n (Or.inl hx)⟩) rfl (fun X hX => ?_)
      rw [hE] at hX
      cases hX
      obtain ⟨s1, s2, s3, s4⟩ := f2.2.1 e E hE
      refine ⟨?_, ?_, fun c' hc' => ?_, fun i q hq => ?_⟩
      · rw [gI_sI_ne (Or.inl (by omega))]
        exact s1
      · rw [gI_sI_ne (Or.inl (by omega))]
        exact s2
      · rw [gI_sI_ne (Or.inl (by omega))]
        exact s3 c' hc'
      · by_cases w : i = f
        · rw [w, gI_sI_eq]
          rw [w, hy] at hq
          cases hq
          rw [if_neg y8]
          exact up2_e.symm
        · rw [gI_sI_ne (Or.inr w), s4 i q hq]
          rw [show (flS (xrun W B P e E 0 (seg K y.2.2.2) [] g).2.2 e f v).2.2.2.1 e i = (xrun W B P e E 0 (seg K y.2.2.2) [] g).2.2.2.2.2.1 e i from up2_n (Or.inr w)]
    · rw [if_neg k, if_neg (kne (v := 0) (b := 0) nI_0.symm (by have := xrun_k (B := B) (P := P) (e := e) (c := 0) (E := E) hk6 (seg K y.2.2.2) [] g; omega) (by omega) k)]
      exact ⟨m1, rfl, f2, f3⟩
