/-! ===== L2: what a run leaves; the calls that run ===== -/
def NG (g g1 : Sg) : Prop := ∀ x, g1.1 x = 3 → g.1 x = 3
theorem NG.rf {g : Sg} : NG g g := fun _ h => h
theorem NG.tr {g g1 g2 : Sg} (h : NG g g1) (h2 : NG g1 g2) : NG g g2 := fun x hx => h x (h2 x hx)
def HN (W : Nat → Sg → Nat × Sg) : Prop := ∀ e g, NG g (W e g).2
theorem xop_n {W : Nat → Sg → Nat × Sg} {B : Nat → Int32} {P : List Enm} {e c : Nat} {E : Enm} {q : Ko} {vs : List Int32} {g : Sg} (hW : HN W) : NG g (xop W B P e E c q vs g).2.2 := by
  unfold xop
  by_cases h1 : q.1.1 = 1
  · rw [if_pos h1]; exact NG.rf
  rw [if_neg h1]
  by_cases h2 : q.1.1 = 2
  · rw [if_pos h2]; exact NG.rf
  rw [if_neg h2]
  by_cases h3 : q.1.1 = 3
  · rw [if_pos h3]
    have := hW (rct B P q).1 g
    unfold xcn
    by_cases k : (W (rct B P q).1 g).1 = 0
    · rw [if_pos k]
      by_cases k2 : (W (rct B P q).1 g).2.1 (rct B P q).1 = 3 ∧ (W (rct B P q).1 g).2.2.1 (rct B P q).1 ≤ (rct B P q).2
      · rw [if_pos k2]; exact this
      · rw [if_neg k2]; exact this
    · rw [if_neg k]; exact this
  rw [if_neg h3]
  by_cases h4 : q.1.1 = 4
  · rw [if_pos h4]; exact NG.rf
  rw [if_neg h4]
  by_cases h5 : q.1.1 = 5
  · rw [if_pos h5]; exact NG.rf
  rw [if_neg h5]
  by_cases h6 : q.1.1 = 6
  · rw [if_pos h6]; exact NG.rf
  rw [if_neg h6]
  by_cases h7 : q.1.1 = 7
  · rw [if_pos h7]; exact NG.rf
  rw [if_neg h7]
  unfold xjn
  split
  · split
    · exact NG.rf
    · exact NG.rf
  · exact NG.rf
theorem xrun_n {W : Nat → Sg → Nat × Sg} {B : Nat → Int32} {P : List Enm} {e c : Nat} {E : Enm} (hW : HN W) : ∀ (s : List Ko) (vs : List Int32) (g : Sg), NG g (xrun W B P e E c s vs g).2.2 := by
  intro s
  induction s with
  | nil => intro vs g; exact NG.rf
  | cons q s ih =>
    intro vs g
    rw [xrun]
    by_cases k : (xop W B P e E c q vs g).1 = 0
    · rw [if_pos k]
      exact (xop_n hW).tr (ih _ _)
    · rw [if_neg k]
      exact xop_n hW
theorem mkr_n {W : Nat → Sg → Nat × Sg} {B : Nat → Int32} {P : List Enm} {K : List Ko} {e c : Nat} {E : Enm} {g : Sg} (hW : HN W) : NG g (mkr W B P K e E c g).2 := by
  unfold mkr
  split
  · exact NG.rf
  · rename_i q l hq
    have := xrun_n (B := B) (P := P) (e := e) (c := c) (E := E) hW (seg K q.2.2.2) [] g
    by_cases k : (xrun W B P e E c (seg K q.2.2.2) [] g).1 = 0
    · rw [if_pos k]; exact this
    · rw [if_neg k]; exact this
theorem mkl_n {W : Nat → Sg → Nat × Sg} {B : Nat → Int32} {P : List Enm} {K : List Ko} {e : Nat} {E : Enm} (hW : HN W) : ∀ (k c : Nat) (g : Sg), NG g (mkl W B P K e E k c g).2 := by
  intro k
  induction k with
  | zero => intro c g; exact NG.rf
  | succ k ih =>
    intro c g
    rw [mkl]
    by_cases w : (mkr W B P K e E c g).1 = 0
    · rw [if_pos w]; exact (mkr_n hW).tr (ih _ _)
    · rw [if_neg w]; exact mkr_n hW
theorem sfl_n {W : Nat → Sg → Nat × Sg} {B : Nat → Int32} {P : List Enm} {K : List Ko} {e f : Nat} {E : Enm} {y : Mem} {g : Sg} (hW : HN W) : NG g (sfl W B P K e E f y g).2 := by
  unfold sfl
  by_cases y8 : y.1 = 8
  · rw [if_pos y8]; exact NG.rf
  rw [if_neg y8]
  have := xrun_n (B := B) (P := P) (e := e) (c := 0) (E := E) hW (seg K y.2.2.2) [] g
  by_cases k : (xrun W B P e E 0 (seg K y.2.2.2) [] g).1 = 0
  · rw [if_pos k]; exact this
  · rw [if_neg k]; exact this
theorem sfs_n {W : Nat → Sg → Nat × Sg} {B : Nat → Int32} {P : List Enm} {K : List Ko} {e : Nat} {E : Enm} (hW : HN W) : ∀ (l : List Mem) (f : Nat) (g : Sg), NG g (sfs W B P K e E l f g).2 := by
  intro l
  induction l with
  | nil => intro f g; exact NG.rf
  | cons y l ih =>
    intro f g
    rw [sfs]
    by_cases w : (sfl W B P K e E f y g).1 = 0
    · rw [if_pos w]; exact (sfl_n hW).tr (ih _ _)
    · rw [if_neg w]; exact sfl_n hW
theorem strt_n {W : Nat → Sg → Nat × Sg} {B : Nat → Int32} {P : List Enm} {K : List Ko} {e : Nat} {E : Enm} {g : Sg} (hW : HN W) : NG g (strt W B P K e E g).2 := by
  have hb : NG (bgn e g) (bdy W B P K e E (mkl W B P K e E E.2.1.length 0 (bgn e g))).2 := by
    unfold bdy
    split
    · exact (mkl_n hW _ _ _).tr (sfs_n hW _ _ _)
    · exact mkl_n hW _ _ _
  unfold strt
  generalize bdy W B P K e E (mkl W B P K e E E.2.1.length 0 (bgn e g)) = r at hb
  have key : ∀ (k : Nat) (v : Int32), k ≠ 3 → NG g (trc (stS r.2 e k) v) := fun k v hk x hx => by
    have hx : up r.2.1 e k x = 3 := hx
    by_cases w : x = e
    · rw [w, up_e] at hx
      exact absurd hx hk
    · rw [up_n w] at hx
      have := hb x hx
      rw [show (bgn e g).1 x = g.1 x from up_n w] at this
      exact this
  unfold fin
  split
  · exact key 1 _ (by decide)
  · exact key 2 _ (by decide)
theorem wnt_n {B : Nat → Int32} {P : List Enm} {K : List Ko} : ∀ D, HN (wnt B P K D) := by
  intro D
  induction D with
  | zero => intro e g; exact NG.rf
  | succ D ih =>
    intro e g
    rw [wnt]
    split
    · exact NG.rf
    · split
      · split
        · exact strt_n ih
        · exact NG.rf
      · exact NG.rf
/-- what both share holds behind a run -/
theorem ZF.run {len : Nat} {B : Nat → Int32} {P : List Enm} {K : List Ko} {gc : Nat → Nat → Nat → Int32} {g g' : Sg} {he : Nat} {hs : List Nat} {ca k : Nat} {F : Nat × Nat} (h : ZF len B P K gc g he hs ca F) (hg : GS P g g') (hn : NG g g') (hk : k ≤ 6) : ZF len B P K gc g' he hs k F := by
  obtain ⟨f1, f2, f3, f4, f5, ⟨f6, f6b, f6c⟩, f7, f8, f9, f10⟩ := h
  refine ⟨f1, f2, f3, hg.2 f4, fun e he z => f5 e he (hn e z), ⟨f6, f6b, fun z => ?_⟩, hk, f8, f9, f10⟩
  obtain ⟨E, e1, e2, e3⟩ := f6c z
  exact ⟨E, e1, by rw [(hg.1 he (by omega)).1]; exact e2, e3⟩
/-- the class's run begins -/
theorem ZC.begin {G : GG} {m : MM} {n pl ps tp tl lenT : Nat} {BT : Nat → Int32} {len : Nat} {B : Nat → Int32} {P : List Enm} {K : List Ko} {gc : Nat → Nat → Nat → Int32} {g : Sg} {he : Nat} {hs : List Nat} {ca : Nat} {fc : Int32} {F : Nat × Nat} (hA : ZA n pl ps tp tl) (h : ZC G m n pl ps tp tl lenT BT len B P K gc g he hs ca fc F) : ∃ m1, M_X7_begin G (n + 210) pl m = some ((), m1) ∧ ZC G m1 n pl ps tp tl lenT BT len B P K gc g he hs ca fc F ∧ CX G m1 n pl tl len B P K gc g 0 [] ∧ OU m m1 (n + 216) := by
  obtain ⟨h1, ⟨h2, h3, h4⟩, h5, h6, h7, h8, ⟨h9, h10, h11⟩, ⟨h12, h13⟩, h14, h15⟩ := h
  obtain ⟨z1, z2, z3, z4, z5, z6⟩ := hA
  have hP8 := h5.2.2.2.2.2.1.1
  have w1 := z1
  have w4 := z4
  have w5 := z5
  unfold PN at w1
  unfold TT at w4 w5
  obtain ⟨m1, em⟩ : ∃ m1, sI (sI (sR m (n + 210) 5 (some pl)) (n + 210) 3 0) (n + 210) 4 0 = m1 := ⟨_, rfl⟩
  have o : Off m m1 [n + 210] := by rw [← em]; exact (Off.sR.tr1 Off.sI).tr1 Off.sI
  have R : ∀ a j, ¬ (a = n + 210 ∧ j = 5) → gR m1 a j = gR m a j := fun a j hz => by
    rw [← em]
    show gR (sR m (n + 210) 5 (some pl)) a j = gR m a j
    rw [gR_sR, if_neg hz]
  have I : ∀ a, a ≠ n + 210 → ∀ j, gI m1 a j = gI m a j := fun a x j => o.I (by simp; omega) j
  have LYn : LY G m1 n := h1.kept (fun a j hz => R a j (by unfold PN TT at hz; omega))
  have CVn := h5.off o (by simp; omega)
  have SGn : CSg m1 pl P g := h7.eq (fun e he => ⟨(o _ (by simp; omega)).1, (o _ (by simp; omega)).1, (o _ (by simp; omega)).1⟩)
  have TRn : CTr m1 n g.2.2.2.2 := ⟨by rw [← em, gI_sI_ne (Or.inr (by omega)), gI_sI_ne (Or.inr (by omega))]; exact h8.1, h8.2.1, fun k v hk => by rw [I _ (by omega)]; exact h8.2.2 k v hk⟩
  refine ⟨m1, by unfold M_X7_begin; rw [em], ⟨LYn, ⟨by rw [R _ _ (by omega)]; exact h2, by rw [R _ _ (by omega)]; exact h3, by rw [R _ _ (by omega)]; exact h4⟩, CVn, h6.kept o (by simp; omega) (by simp; omega), SGn, TRn, ⟨by rw [I _ (by omega)]; exact h9, by rw [I _ (by omega)]; exact h10, fun i c hc => by rw [I _ (by omega)]; exact h11 i c hc⟩, ⟨by rw [I _ (by omega)]; exact h12, by rw [I _ (by omega)]; exact h13⟩, by rw [I _ (by omega)]; exact h14, by rw [I _ (by omega)]; exact h15⟩, ⟨CVn, SGn, TRn, ⟨LYn.2.1.1, LYn.2.1.2.1, ?_, LYn.2.1.2.2.1, LYn.2.1.2.2.2.1⟩, ?_, ?_, trivial⟩, fun a ha => o a (by simp; omega)⟩
  · rw [← em]
    show gR (sR m (n + 210) 5 (some pl)) (n + 210) 5 = some pl
    rw [gR_sR, if_pos ⟨rfl, rfl⟩]
  · rw [← em, gI_sI_eq, nI_0]
  · rw [← em, gI_sI_ne (Or.inr (by omega)), gI_sI_eq]
    rfl
theorem ZC.run {G : GG} {m m1 : MM} {n pl ps tp tl lenT : Nat} {BT : Nat → Int32} {len : Nat} {B : Nat → Int32} {P : List Enm} {K : List Ko} {gc : Nat → Nat → Nat → Int32} {g g' : Sg} {he : Nat} {hs : List Nat} {ca k : Nat} {fc : Int32} {F : Nat × Nat} {st : List Int32} (hA : ZA n pl ps tp tl) (h : ZC G m n pl ps tp tl lenT BT len B P K gc g he hs ca fc F) (o : OX m m1 n pl) (c : CX G m1 n pl tl len B P K gc g' k st) : ZC G m1 n pl ps tp tl lenT BT len B P K gc g' he hs ca fc F := by
  obtain ⟨h1, ⟨h2, h3, h4⟩, h5, h6, h7, h8, ⟨h9, h10, h11⟩, ⟨h12, h13⟩, h14, h15⟩ := h
  obtain ⟨z1, z2, z3, z4, z5, z6⟩ := hA
  unfold PN at z1
  unfold TT at z4
  have R : ∀ a j, gR m1 a j = gR m a j := fun a j => by show m1.2.2 a j = m.2.2 a j; rw [o.1]
  have I : ∀ a, a < n + 1 ∨ n + 201 ≤ a → a ≠ n + 210 → a ≠ n + 211 → a ≠ n + 212 → ∀ j, gI m1 a j = gI m a j := fun a x y z w j => congrFun (o.2.1 a y z w (by intro e he; omega)) j
  obtain ⟨t1, t2, t3, t4, t5, t6⟩ := h6
  exact ⟨h1.eq (by rw [o.1]), ⟨by rw [R]; exact h2, by rw [R]; exact h3, by rw [R]; exact h4⟩, c.1, ⟨by rw [R]; exact t1, t2, by rw [I _ (by omega) (by omega) (by omega) (by omega)]; exact t3, t4, fun i hi => by rw [I _ (by omega) (by omega) (by omega) (by omega)]; exact t5 i hi, t6⟩, c.2.1, c.2.2.1, ⟨by rw [I _ (by omega) (by omega) (by omega) (by omega)]; exact h9, by rw [I _ (by omega) (by omega) (by omega) (by omega)]; exact h10, fun i c hc => by rw [I _ (by omega) (by omega) (by omega) (by omega)]; exact h11 i c hc⟩, ⟨by rw [I _ (by omega) (by omega) (by omega) (by omega)]; exact h12, by rw [I _ (by omega) (by omega) (by omega) (by omega)]; exact h13⟩, by rw [I _ (by omega) (by omega) (by omega) (by omega)]; exact h14, by rw [I _ (by omega) (by omega) (by omega) (by omega)]; exact h15⟩
/-- the end of a call that may fail, in the class -/
theorem ZC.fin {G : GG} {m : MM} {n pl ps tp tl lenT : Nat} {BT : Nat → Int32} {len : Nat} {B : Nat → Int32} {P : List Enm} {K : List Ko} {gc : Nat → Nat → Nat → Int32} {g : Sg} {he : Nat} {hs : List Nat} {ca k : Nat} {fc v : Int32} {F : Nat × Nat} (hA : ZA n pl ps tp tl) (h : ZC G m n pl ps tp tl lenT BT len B P K gc g he hs ca fc F) (hk : gI m (n + 210) 4 = nI k) (hk6 : k ≤ 6) : ∃ m1, M_X10_finish G n v m = some (if k = 0 then v else 0, m1) ∧ ZC G m1 n pl ps tp tl lenT BT len B P K gc g he hs k (if k = 0 then fc else fc + 1) F ∧ OU m m1 (n + 216) := by
  obtain ⟨h1, ⟨h2, h3, h4⟩, h5, h6, h7, h8, ⟨h9, h10, h11⟩, ⟨h12, h13⟩, h14, h15⟩ := h
  obtain ⟨z1, z2, z3, z4, z5, z6⟩ := hA
  have hP8 := h5.2.2.2.2.2.1.1
  unfold PN at z1
  unfold TT at z4 z5
  have key : ∀ (m1 : MM), Off m m1 [n] → m1.2 = m.2 → (∀ j, j ≠ 10 → j ≠ 11 → gI m1 n j = gI m n j) → ∀ fc', gI m1 n 10 = nI k → gI m1 n 11 = fc' → ZC G m1 n pl ps tp tl lenT BT len B P K gc g he hs k fc' F := fun m1 o o2 oj fc' k1 k2 => by
    have R : ∀ a j, gR m1 a j = gR m a j := fun a j => by show m1.2.2 a j = m.2.2 a j; rw [o2]
    have I : ∀ a, a ≠ n → ∀ j, gI m1 a j = gI m a j := fun a x j => o.I (by simp; omega) j
    exact ⟨h1.eq (by rw [o2]), ⟨by rw [R]; exact h2, by rw [R]; exact h3, by rw [R]; exact h4⟩, h5.off o (by simp; omega), h6.kept o (by simp; omega) (by simp; omega), h7.eq (fun e he => ⟨(o _ (by simp; omega)).1, (o _ (by simp; omega)).1, (o _ (by simp; omega)).1⟩), ⟨by rw [I _ (by omega)]; exact h8.1, h8.2.1, fun k v hk => by rw [I _ (by omega)]; exact h8.2.2 k v hk⟩, ⟨by rw [oj _ (by omega) (by omega)]; exact h9, by rw [oj _ (by omega) (by omega)]; exact h10, fun i c hc => by rw [I _ (by omega)]; exact h11 i c hc⟩, ⟨k1, k2⟩, by rw [I _ (by omega)]; exact h14, by rw [I _ (by omega)]; exact h15⟩
  unfold M_X10_finish
  rw [nb_e h1.1.2.2.2.1, hk, gI_sI_eq]
  by_cases w : k = 0
  · rw [if_pos (by rw [w, nI_0]), if_pos w, if_pos w]
    exact ⟨_, rfl, key _ Off.sI rfl (fun j a b => gI_sI_ne (Or.inr a)) _ gI_sI_eq (by rw [gI_sI_ne (Or.inr (by omega))]; exact h13), OU.s (by omega)⟩
  · rw [if_neg (nk0 hk6 w), if_neg w, if_neg w, gI_sI_ne (Or.inr (by omega)), h13]
    exact ⟨_, rfl, key _ (Off.sI.tr1 Off.sI) rfl (fun j a b => by rw [gI_sI_ne (Or.inr b), gI_sI_ne (Or.inr a)]) _ (by rw [gI_sI_ne (Or.inr (by omega)), gI_sI_eq]) gI_sI_eq, (OU.s (by omega)).tr (OU.s (by omega))⟩
/-- the reference's run begins -/
theorem ZR.rn {G : GG} {m : MM} {d tt lenT : Nat} {BT : Nat → Int32} {len : Nat} {B : Nat → Int32} {P : List Enm} {K : List Ko} {g : Sg} {he : Nat} {hs : List Nat} {ca : Nat} {fc : Int32} {F : Nat × Nat} (h : ZR G m d tt lenT BT len B P K g he hs ca fc F) (hne : P ≠ []) : RN G (sI m d 62 0) d tt B K P g 0 fc := by
  obtain ⟨h1, ⟨h2, h3⟩, ⟨h4, h5⟩, h6, h7, h8, h9, ⟨h10, h11⟩, -⟩ := h
  exact ⟨(h7 hne).1.kept (OMr.f (by omega)), h8.kept (fun i _ _ => fI (by omega)), h9.kept (gI_sI_ne (Or.inr (by omega))) (fI (by omega)), by rw [gI_sI_eq, nI_0], by rw [gI_sI_ne (Or.inr (by omega))]; exact h11⟩
theorem ZR.run {G : GG} {m m1 : MM} {d tt lenT : Nat} {BT : Nat → Int32} {len : Nat} {B : Nat → Int32} {P : List Enm} {K : List Ko} {g g' : Sg} {he : Nat} {hs : List Nat} {ca k : Nat} {fc fc' : Int32} {F : Nat × Nat} (h : ZR G m d tt lenT BT len B P K g he hs ca fc F) (o : OMr m m1 d) (c : RN G m1 d tt B K P g' k fc') : ZR G m1 d tt lenT BT len B P K g' he hs k fc' F := by
  obtain ⟨h1, h2, h3, h6, h7, h8, h9, h10, h11, h12⟩ := id h
  exact h.mk o (by simp) (fun i a b => by simp; omega) ⟨by rw [o.fl (by omega)]; exact h3.1, fun i hi => (congrFun (o.far (by omega) (by omega)) _).trans (h3.2 i hi)⟩ c.2.1 c.2.2.1 ⟨c.2.2.2.1, c.2.2.2.2⟩ ⟨by rw [o.fl (by omega)]; exact h11.1, fun z => by rw [o.fl (by omega)]; exact h11.2.1 z, fun i c hc => (congrFun (o.far (by omega) (by omega)) _).trans (h11.2.2 i c hc)⟩ ⟨by rw [o.fl (by omega)]; exact h12.1, by rw [o.fl (by omega)]; exact h12.2⟩
/-- an enumeration is wanted, by both -/
theorem want_c {G : GG} {m : MM} {n pl tl len e : Nat} {B : Nat → Int32} {P : List Enm} {K : List Ko} {gc : Nat → Nat → Nat → Int32} {E : Enm} {g : Sg} (hN : PN n pl) (hT : TT n tl) (hO : OKP B P K) (hI : ISg P g) (hE : P[e]? = some E) (c : CX G m n pl tl len B P K gc g 0 []) : ∃ m1, M_X7_wantR G 10 (n + 210) (nI e) 0 m = some (decide ((wnt B P K 10 e g).1 = 0), m1) ∧ CX G m1 n pl tl len B P K gc (wnt B P K 10 e g).2 (wnt B P K 10 e g).1 [] ∧ OX m m1 n pl ∧ ((wnt B P K 10 e g).1 = 0 → (wnt B P K 10 e g).2.1 e = 1 ∨ (wnt B P K 10 e g).2.1 e = 3) := by
  have h8 := zc_8 g
  have := cr_want hN hT hO 10 0 e E m g [] hE c hI (by omega) (by omega) (by simp)
  rw [nI_0] at this
  exact this
