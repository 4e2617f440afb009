/-! ===== L2: the reference's exp: one operand ===== -/
theorem tc_all : ∀ k, k < 256 → (nI (tc k) = 0 ↔ k = 130) ∧ (nI (tc k) = 1 ↔ k = 128) ∧ (nI (tc k) = 2 ↔ k = 129) ∧ (nI (tc k) = 20 ↔ k = 132) ∧ (nI (tc k) = 26 ↔ k = 138) ∧ (nI (tc k) = 27 ↔ k = 139) ∧ (nI (tc k) = 28 ↔ k = 140) := by decide +kernel
theorem hz2100 : ∀ i, 31 ≤ i → i ≤ 40 → i ≠ 38 → hsz i = 2100 := fun i i1 i2 i3 => by
  rcases (show i = 31 ∨ i = 32 ∨ i = 33 ∨ i = 34 ∨ i = 35 ∨ i = 36 ∨ i = 37 ∨ i = 39 ∨ i = 40 by omega) with rfl | rfl | rfl | rfl | rfl | rfl | rfl | rfl | rfl <;> rfl
theorem OE.act {m : MM} {d tt n i : Nat} {v : Int32} (h1 : 31 ≤ i) (h2 : i ≤ 40) (h3 : i ≠ 38) (hn : n < 2100) : OE m (sI m (d + i) (2100 * tt + n) v) d tt := OE.a ⟨by omega, h2, h3⟩ (by rw [hz2100 i h1 h2 h3]; omega) (by rw [hz2100 i h1 h2 h3]; omega)
theorem RE.emitF {G : GG} {m : MM} {d tt len e c p : Nat} {B : Nat → Int32} {A : List Ko} {st : List Nat} {l : List Tok} (h : RE G m d tt len B e A st l none) (hb : A.length + 1 + st.length + l.length ≤ 2001) (hp : plc l = p) : ∃ m1, M_X11_emit G d 2 0 m = some ((), m1) ∧ (∀ k, gI m1 d k = gI m d k) ∧ m1.2.2 = m.2.2 ∧ RE G (sI m1 (d + 35) (2100 * tt + A.length) (nI (nl B p))) d tt len B e (A ++ [kox e 0 c (2, p, 0, 0)]) st l none ∧ OE m (sI m1 (d + 35) (2100 * tt + A.length) (nI (nl B p))) d tt := by
  obtain ⟨g1, g2, g3, g4, g5, g6, g7, g8, g9, g10, g11⟩ := h
  have ht := g2.2.1
  rw [mm_emit g1 g2.1 ht g5.1 (by omega)]
  obtain ⟨m1, em⟩ : ∃ m1, sI (sI (sI (sI (sI (sI m (d + 31) (2100 * tt + A.length) 2) (d + 32) (2100 * tt + A.length) 0) (d + 34) (2100 * tt + A.length) (gI m d 42)) (d + 39) (2100 * tt + A.length) 0) (d + 40) (2100 * tt + A.length) (gI m d 48)) (d + 30) tt (nI (A.length + 1)) = m1 := ⟨_, rfl⟩
  rw [em]
  obtain ⟨m2, em2⟩ : ∃ m2, sI m1 (d + 35) (2100 * tt + A.length) (nI (nl B p)) = m2 := ⟨_, rfl⟩
  refine ⟨m1, rfl, ?_⟩
  rw [em2]
  have oa : ∀ (mz : MM) (i : Nat) (v : Int32), 31 ≤ i → i ≤ 40 → i ≠ 38 → OE mz (sI mz (d + i) (2100 * tt + A.length) v) d tt := fun mz i v i1 i2 i3 => OE.act i1 i2 i3 (by omega)
  have oh : OE m m2 d tt := by
    rw [← em2, ← em]
    exact ((((((oa _ 31 _ (by omega) (by omega) (by omega)).tr (oa _ 32 _ (by omega) (by omega) (by omega))).tr (oa _ 34 _ (by omega) (by omega) (by omega))).tr (oa _ 39 _ (by omega) (by omega) (by omega))).tr (oa _ 40 _ (by omega) (by omega) (by omega))).tr (OE.a ⟨by omega, by omega, by omega⟩ (by show 1 * tt ≤ tt; omega) (by show tt < 1 * tt + 1; omega))).tr (oa _ 35 _ (by omega) (by omega) (by omega))
  have gd1 : ∀ k, gI m1 d k = gI m d k := fun k => by rw [← em]; simp [gI_sI]
  have gd : ∀ k, gI m2 d k = gI m d k := fun k => by rw [← em2, gI_sI_ne (Or.inl (by omega))]; exact gd1 k
  have g41 : ∀ j, gI m2 (d + 41) j = gI m (d + 41) j := fun j => by rw [← em2, ← em]; simp [gI_sI]
  have old : ∀ i, 31 ≤ i → i ≤ 40 → ∀ j, j ≠ 2100 * tt + A.length → gI m2 (d + i) j = gI m (d + i) j := fun i i1 i2 j hj => by
    rw [← em2, ← em]
    simp only [gI_sI]
    have : i ≠ 30 := by omega
    simp [this, hj]
  refine ⟨gd1, by rw [← em]; rfl, ⟨g1.oh oh, g2.oh oh, g3, g4.kept (fun k _ _ => gd k), ⟨?_, fun hF j q hq => ?_⟩, by rw [gd]; exact g6, g7.kept (fun j _ => g41 j), by rw [gd]; exact g8, g9.kept (fun k _ _ => gd k), by rw [List.length_append]; simp; omega, g11⟩, oh⟩
  · rw [← em2, gI_sI_ne (Or.inl (by omega)), ← em, gI_sI_eq, List.length_append]; rfl
  · rcases ap_get hq with ⟨j1, j2⟩ | ⟨j1, j2⟩
    · exact (g5.2 hF j q j2).kept (fun i i1 i2 i3 => old i i1 i2 _ (by omega))
    · subst j1
      subst j2
      refine ⟨?_, fun z => absurd z (by show ¬ 2 = 1; omega), fun z y => ?_, fun z => ?_, fun z => absurd z (by show ¬ 2 = 3; omega), ?_, ?_⟩
      · rw [← em2, ← em]; simp [gI_sI, kox]; rfl
      · obtain ⟨c', rs, p1, z1, z2, -⟩ := g4
        have e42 : gI m d 42 = nI p := by rw [z2.1, ← hp, z1]; rfl
        rw [← em2, ← em, ← show gI m d 42 = nI (kox e 0 c (2, p, 0, 0)).1.2.1 from e42]; simp [gI_sI]
      · rw [← em2, gI_sI_eq]; rfl
      · rw [← em2, ← em]; simp [gI_sI]; rfl
      · rw [← em2, ← em]; simp [gI_sI]; exact g8
/-- the last act becomes a constant's -/
theorem RE.setC {G : GG} {m : MM} {d tt len e c p s : Nat} {B : Nat → Int32} {A : List Ko} {st : List Nat} {l : List Tok} {v w : Int32} (h : RE G m d tt len B e (A ++ [kox e 0 c (2, p, 0, 0)]) st l none) : ∃ m2, sI (sI (sI m (d + 31) (2100 * tt + A.length) 3) (d + 36) (2100 * tt + A.length) v) (d + 37) (2100 * tt + A.length) w = m2 ∧ OE m m2 d tt ∧ (∀ k, gI m2 d k = gI m d k) ∧ (v = nI s → w = nI (nl B s) → RE G m2 d tt len B e (A ++ [kox e 0 c (3, p, s, 0)]) st l none) ∧ ∃ m3, M_X11_stop G d m2 = some ((), m3) ∧ OE m2 m3 d tt ∧ RE G m3 d tt len B e (A ++ [kox e 0 c (2, p, 0, 0)]) st l (some (plc l)) := by
  obtain ⟨g1, g2, g3, g4, g5, g6, g7, g8, g9, g10, g11⟩ := h
  obtain ⟨m2, em2⟩ : ∃ m2, sI (sI (sI m (d + 31) (2100 * tt + A.length) 3) (d + 36) (2100 * tt + A.length) v) (d + 37) (2100 * tt + A.length) w = m2 := ⟨_, rfl⟩
  rw [List.length_append, List.length_singleton] at g10
  have g50 := g5.1
  rw [List.length_append, List.length_singleton] at g50
  have oa : ∀ (mz : MM) (i : Nat) (v : Int32), 31 ≤ i → i ≤ 40 → i ≠ 38 → OE mz (sI mz (d + i) (2100 * tt + A.length) v) d tt := fun mz i v i1 i2 i3 => OE.act i1 i2 i3 (by omega)
  have oh : OE m m2 d tt := by
    rw [← em2]
    exact ((oa _ 31 _ (by omega) (by omega) (by omega)).tr (oa _ 36 _ (by omega) (by omega) (by omega))).tr (oa _ 37 _ (by omega) (by omega) (by omega))
  have gd : ∀ k, gI m2 d k = gI m d k := fun k => by rw [← em2]; simp [gI_sI]
  have g41 : ∀ j, gI m2 (d + 41) j = gI m (d + 41) j := fun j => by rw [← em2]; simp [gI_sI]
  have g30 : ∀ j, gI m2 (d + 30) j = gI m (d + 30) j := fun j => by rw [← em2]; simp [gI_sI]
  have old : ∀ i, 31 ≤ i → i ≤ 40 → ∀ j, j ≠ 2100 * tt + A.length → gI m2 (d + i) j = gI m (d + i) j := fun i i1 i2 j hj => by
    rw [← em2]
    simp [gI_sI, hj]
  have same : ∀ i, i ≠ 31 → i ≠ 36 → i ≠ 37 → ∀ j, gI m2 (d + i) j = gI m (d + i) j := fun i i1 i2 i3 j => by
    rw [← em2]
    simp [gI_sI, i1, i2, i3]
  refine ⟨m2, em2, oh, gd, fun hv hw => ?_, ?_⟩
  · refine ⟨g1.oh oh, g2.oh oh, g3, g4.kept (fun k _ _ => gd k), ⟨?_, fun hF j q hq => ?_⟩, by rw [gd]; exact g6, g7.kept (fun j _ => g41 j), by rw [gd]; exact g8, g9.kept (fun k _ _ => gd k), by rw [List.length_append, List.length_singleton]; exact g10, g11⟩
    · rw [g30, List.length_append, List.length_singleton]; exact g50
    · rcases ap_get hq with ⟨j1, j2⟩ | ⟨j1, j2⟩
      · exact (g5.2 hF j q (by rw [List.getElem?_append_left j1]; exact j2)).kept (fun i i1 i2 i3 => old i i1 i2 _ (by omega))
      · subst j1
        subst j2
        obtain ⟨a1, a2, a3, a4, a5, a6, a7⟩ := g5.2 hF A.length _ get_app
        refine ⟨?_, fun z => absurd z (by show ¬ 3 = 1; omega), fun _ _ => ?_, fun _ => ?_, fun _ => ⟨?_, ?_⟩, ?_, ?_⟩
        · rw [← em2]; simp [gI_sI, kox]; rfl
        · rw [same 34 (by omega) (by omega) (by omega)]; exact a3 (by show 2 ≤ 2; omega) (by show 2 ≤ 6; omega)
        · rw [same 35 (by omega) (by omega) (by omega)]; exact a4 (Or.inl rfl)
        · rw [← em2, gI_sI_ne (Or.inl (by omega)), gI_sI_eq, hv]; rfl
        · rw [← em2, gI_sI_eq, hw]; rfl
        · rw [same 39 (by omega) (by omega) (by omega)]; exact a6
        · rw [same 40 (by omega) (by omega) (by omega)]; exact a7
  · have h46 : gI m2 d 46 = nI 0 := by rw [gd]; exact g9
    obtain ⟨c', rs, p1, z1, z2, -⟩ := id g4
    have h42 : gI m2 d 42 = nI (plc l) := by rw [gd, z2.1, z1]; rfl
    unfold M_X11_stop M_X11_isGood
    rw [h46, if_neg (by decide), bd_e rfl, if_pos rfl, gI_sI_ne (Or.inr (by decide)), h42]
    have o : OM m2 (sI (sI m2 d 46 1) d 47 (nI (plc l))) d [46, 47] [] := (OM.f.tr OM.f).mono (by simp) (by simp)
    have oh2 : OE m2 (sI (sI m2 d 46 1) d 47 (nI (plc l))) d tt := o.oh (by simp)
    refine ⟨_, rfl, oh2, (g1.oh oh).oh oh2, (g2.oh oh).oh oh2, g3, g4.kept (fun k k1 k2 => by rw [o.I (by simp; omega), gd]), ⟨?_, fun z => by cases z⟩, by rw [o.I (by decide), gd]; exact g6, g7.kept (fun j _ => by rw [o.A (by decide) (by simp), g41]), by rw [o.I (by decide), gd]; exact g8, ⟨by rw [gI_sI_ne (Or.inr (by decide)), gI_sI_eq]; rfl, gI_sI_eq⟩, by rw [List.length_append, List.length_singleton]; exact g10, g11⟩
    rw [o.A (by decide) (by simp), g30]; exact g5.1
theorem mm_one {G : GG} {m : MM} {d tt len e c : Nat} {B : Nat → Int32} {A : List Ko} {st : List Nat} {l : List Tok} (h : RE G m d tt len B e A st l none) (hb : A.length + st.length + l.length ≤ 2000) (h40 : hd l ≠ 40 ∧ hd l ≠ 45) : ∃ m1, M_X11_readOne G d m = some ((), m1) ∧ OE m m1 d tt ∧ ((∃ o l1, RE G m1 d tt len B e (A ++ [kox e 0 c o]) st l1 none ∧ l1.length < l.length ∧ ∀ st' de sg out, pE (0, 0, st', de, sg, out) l = pE (aft st' de sg out o) l1) ∨ ∃ A1 l1 r, RE G m1 d tt len B e A1 st l1 (some (plc r)) ∧ ∀ st' de sg out, pE (0, 0, st', de, sg, out) l = (false, out, r)) := by
  have h0 := h
  obtain ⟨g1, g2, g3, g4, g5, g6, g7, g8, g9, g10, g11⟩ := h
  obtain ⟨t, rs, p1, z1, z2, z3, z4, z5, z6⟩ := g4
  obtain ⟨b1, b2, b3⟩ := z6 t (by rw [z1]; simp)
  subst z1
  have hnop : ¬ (t.1 = 40 ∨ t.1 = 45) := fun z => z.elim h40.1 h40.2
  obtain ⟨c0, c1, c2, c20, c26, c27, c28⟩ := tc_all t.1 b1
  have ht := g2.2.1
  have h30 := g5.1
  have e44 := z2.2.1
  unfold M_X11_readOne
  rw [nb_e (mr_33 g1), mz_33 g1, g2.1, ib_n (by omega) (by omega), e44]
  by_cases q129 : t.1 = 129
  · rw [if_pos (c2.mpr q129), z2.2.2.2.1 q129]
    obtain ⟨m1, e1, e2, e3, -⟩ := h0.emit (c := c) (o := (1, t.2.1, 0, t.2.2)) (a := nI t.2.2) (by omega) (fun _ => rfl) (fun z => absurd z (by show ¬ 2 ≤ 1; omega)) (by show 1 ≠ 2 ∧ 1 ≠ 3; omega)
    obtain ⟨m2, f1, f2, f3, f4⟩ := e2.next (show t.1 ≠ 130 by omega)
    rw [show (1 : Int32) = nI (acd ((1, t.2.1, 0, t.2.2) : Op).1) from rfl, bd_e e1, bd_e f1]
    refine ⟨m2, rfl, e3.tr (f3.oh (by simp)), Or.inl ⟨_, rs, f2, by simp, fun st' de sg out => pE_go ?_⟩⟩
    show stp0 st' de sg out t = _
    unfold stp0
    rw [if_neg hnop, if_pos q129]
  rw [if_neg (fun z => q129 (c2.mp z))]
  have word : ∀ (w : Nat), w = 4 ∨ w = 5 ∨ w = 6 → t.1 = 134 + w → ∃ m1, (bd (M_X11_emit G d (nI w) 0 m) fun _ m_10 => bd (M_X11_next G d m_10) fun _ m_12 => some ((), m_12)) = some ((), m1) ∧ OE m m1 d tt ∧ ((∃ o l1, RE G m1 d tt len B e (A ++ [kox e 0 c o]) st l1 none ∧ l1.length < (t :: rs).length ∧ ∀ st' de sg out, pE (0, 0, st', de, sg, out) (t :: rs) = pE (aft st' de sg out o) l1) ∨ ∃ A1 l1 r, RE G m1 d tt len B e A1 st l1 (some (plc r)) ∧ ∀ st' de sg out, pE (0, 0, st', de, sg, out) (t :: rs) = (false, out, r)) := by
    intro w hw htw
    obtain ⟨m1, e1, e2, e3, -⟩ := h0.emit (c := c) (o := (w, t.2.1, 0, 0)) (a := 0) (by omega) (fun z => absurd z (by show ¬ w = 1; omega)) (fun _ _ => rfl) (by show w ≠ 2 ∧ w ≠ 3; omega)
    obtain ⟨m2, f1, f2, f3, f4⟩ := e2.next (show t.1 ≠ 130 by omega)
    have ew : acd ((w, t.2.1, 0, 0) : Op).1 = w := by show acd w = w; unfold acd; rw [if_neg (by omega), if_neg (by omega)]
    rw [ew] at e1
    rw [bd_e e1, bd_e f1]
    refine ⟨m2, rfl, e3.tr (f3.oh (by simp)), Or.inl ⟨_, rs, f2, by simp, fun st' de sg out => pE_go ?_⟩⟩
    show stp0 st' de sg out t = _
    unfold stp0
    rcases hw with rfl | rfl | rfl
    · rw [if_neg hnop, if_neg q129, if_pos (by omega)]
    · rw [if_neg hnop, if_neg q129, if_neg (by omega), if_pos (by omega)]
    · rw [if_neg hnop, if_neg q129, if_neg (by omega), if_neg (by omega), if_pos (by omega)]
  unfold B_X11_readOne_70
  rw [e44]
  by_cases q138 : t.1 = 138
  · rw [if_pos (c26.mpr q138), if_pos (c26.mpr q138)]
    exact word 4 (by omega) (by omega)
  rw [if_neg (fun z => q138 (c26.mp z)), if_neg (fun z => q138 (c26.mp z))]
  by_cases q139 : t.1 = 139
  · rw [if_pos (c27.mpr q139), if_pos (c27.mpr q139)]
    exact word 5 (by omega) (by omega)
  rw [if_neg (fun z => q139 (c27.mp z)), if_neg (fun z => q139 (c27.mp z))]
  by_cases q140 : t.1 = 140
  · rw [if_pos (c28.mpr q140)]
    exact word 6 (by omega) (by omega)
  rw [if_neg (fun z => q140 (c28.mp z))]
  by_cases q128 : t.1 = 128
  · rw [if_pos (c1.mpr q128)]
    obtain ⟨m1, e1, e2, e3, e4, e5⟩ := h0.emitF (c := c) (p := t.2.1) (by omega) rfl
    have cl : (nI tt).toNatClampNeg = tt := nI_clamp (by omega)
    have ek : (2100 : Int32) * nI tt + nI A.length = nI (2100 * tt + A.length) := by rw [show (2100 : Int32) = nI 2100 from rfl, pk_mul, nI_add]
    have ckk : (nI (2100 * tt + A.length)).toNatClampNeg = 2100 * tt + A.length := nI_clamp (by omega)
    have hl1 : LM G m1 d := fun s hs => ⟨by rw [← (g1 s hs).1]; show m1.2.2 d s = m.2.2 d s; rw [e3], (g1 s hs).2⟩
    rw [bd_e e1, nb_e (mr_38 hl1), mz_38 hl1, cl, h30, ek, ib_n (by omega) (by omega), ckk, e2, z2.2.2.2.2 (Or.inl q128)]
    obtain ⟨m2, f1, f2, f3, f4⟩ := e4.next (show t.1 ≠ 130 by omega)
    rw [bd_e f1, show (46 : Int32) = nI 46 from rfl, bd_e (f2.isAt (by omega))]
    have o2 : OE m m2 d tt := e5.tr (f3.oh (by simp))
    have hp2 : ∀ st' de sg out, pE (0, 0, st', de, sg, out) (t :: rs) = pE (2, t.2.1, st', de, sg, out) rs := fun st' de sg out => by
      refine pE_go ?_
      show stp0 st' de sg out t = _
      unfold stp0
      rw [if_neg hnop, if_neg q129, if_neg q138, if_neg q139, if_neg q140, if_pos q128]
    have hrs : (t :: rs).tail = rs := rfl
    rw [hrs] at f2 f4 ⊢
    have f20 := f2
    obtain ⟨y1, y2, y3, ⟨t', rs', p1', w1, w2, w3, w4, w5, w6⟩, y5, y6, y7, y8, y9, y10, y11⟩ := f2
    subst w1
    have bt' := w6 t' (by simp)
    by_cases q46 : t'.1 = 46
    · rw [decide_eq_true (show hd (t' :: rs') = 46 from q46), if_pos rfl]
      obtain ⟨m3, i1, i2, i3, i4⟩ := f20.next (show t'.1 ≠ 130 by omega)
      rw [bd_e i1]
      have hrs' : (t' :: rs').tail = rs' := rfl
      rw [hrs'] at i2 i4
      have i20 := i2
      obtain ⟨x1, x2, x3, ⟨t2, rs2, p2, v1, v2, v3, v4, v5, v6⟩, x5, x6, x7, x8, x9, x10, x11⟩ := i2
      subst v1
      have bt2 := v6 t2 (by simp)
      have o3 : OE m m3 d tt := o2.tr (i3.oh (by simp))
      obtain ⟨m4, j1, j2, j3, j4, m5, j5, j6, j7⟩ := i20.setC (s := t2.2.1) (v := gI m3 d 42) (w := gI m3 d 43)
      have hp3 : ∀ st' de sg out, pE (0, 0, st', de, sg, out) (t :: t' :: t2 :: rs2) = pE (3, t.2.1, st', de, sg, out) (t2 :: rs2) := fun st' de sg out => by
        rw [hp2]
        refine pE_go ?_
        show (if t'.1 = 46 then _ else _) = _
        rw [if_pos q46]
      rw [nb_e (mr_34 x1), mz_34 x1, ib_n (by omega) (by omega)]
      simp only [gR_sI]
      rw [nb_e (mr_39 x1), mz_39 x1, ib_n (by omega) (by omega), nb_e (mr_40 x1), mz_40 x1, ib_n (by omega) (by omega)]
      have gg : ∀ (mz : MM) (o k j : Nat) (v : Int32), gI (sI mz (d + (o + 1)) k v) d j = gI mz d j := fun mz o k j v => gI_sI_ne (Or.inl (by omega))
      simp only [gg _ 30, gg _ 35]
      rw [j1, j3, v2.2.1]
      obtain ⟨-, d1, -⟩ := tc_all t2.1 bt2.1
      by_cases q3 : t2.1 = 128
      · rw [if_pos (d1.mpr q3)]
        have r4 := j4 v2.1 (v2.2.2.2.2 (Or.inl q3))
        obtain ⟨m6, k1, k2, k3, k4⟩ := r4.next (show t2.1 ≠ 130 by omega)
        rw [bd_e k1]
        refine ⟨m6, rfl, (o3.tr j2).tr (k3.oh (by simp)), Or.inl ⟨_, rs2, k2, by simp; omega, fun st' de sg out => ?_⟩⟩
        rw [hp3]
        refine pE_go ?_
        show (if t2.1 = 128 then _ else _) = _
        rw [if_pos q3]
      · rw [if_neg (fun z => q3 (d1.mp z)), bd_e j5]
        refine ⟨m5, rfl, (o3.tr j2).tr j6, Or.inr ⟨_, t2 :: rs2, t2 :: rs2, j7, fun st' de sg out => ?_⟩⟩
        rw [hp3]
        refine pE_end (q := (false, out)) ?_
        show (if t2.1 = 128 then _ else _) = _
        rw [if_neg q3]
    · rw [decide_eq_false (show ¬ hd (t' :: rs') = 46 from q46), if_neg ff]
      refine ⟨m2, rfl, o2, Or.inl ⟨_, t' :: rs', f20, by simp, fun st' de sg out => ?_⟩⟩
      rw [hp2, pE, pE]
      have es : stp (2, t.2.1, st', de, sg, out) t' = stp (aft st' de sg out (2, t.2.1, 0, 0)) t' := by
        show (if t'.1 = 46 then _ else _) = stp1 _ _ _ _ t'.1
        rw [if_neg q46]
        rfl
      rw [es]
  · rw [if_neg (fun z => q128 (c1.mp z))]
    obtain ⟨m1, e1, e2, e3⟩ := h0.stop
    rw [bd_e e1]
    refine ⟨m1, rfl, e3.oh (by simp), Or.inr ⟨A, t :: rs, t :: rs, e2, fun st' de sg out => ?_⟩⟩
    refine pE_end (q := (false, out)) ?_
    show stp0 st' de sg out t = _
    unfold stp0
    rw [if_neg hnop, if_neg q129, if_neg q138, if_neg q139, if_neg q140, if_neg q128]
