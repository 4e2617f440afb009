/-! ===== L2: end, swap, clear ===== -/
theorem RQ.gen {G : GG} {m m1 : MM} {d tt : Nat} {B : Nat → Int32} {K : List Ko} {P : List Enm} (h : RQ G m d tt B K P) (hL : LM G m1 d) (o3 : gI m1 d 3 = gI m d 3) (oa : ∀ i, 3 ≤ i → i ≤ 40 → m1.1 (d + i) = m.1 (d + i)) : RQ G m1 d tt B K P := by
  obtain ⟨h1, h2, h3, h4, h5, h6, h7⟩ := h
  refine ⟨hL, o3.trans h2, h3, h4.eq (fun i a b => oa i (by omega) (by omega)), h5.eq (fun i a b => oa i (by omega) (by omega)), h6.kept (fun i a b c => oa i (by omega) (by omega)), fun j q hq => ?_⟩
  obtain ⟨a1, a2⟩ := h7 j q hq
  refine ⟨fun z => ?_, fun z e c hc => ?_⟩
  · obtain ⟨E, e1, e2⟩ := a1 z
    exact ⟨E, e1, (congrFun (oa 32 (by omega) (by omega)) _).trans e2⟩
  · obtain ⟨e1, e2⟩ := a2 z e c hc
    exact ⟨(congrFun (oa 32 (by omega) (by omega)) _).trans e1, (congrFun (oa 33 (by omega) (by omega)) _).trans e2⟩
theorem ZR.mk {G : GG} {m m1 : MM} {d tt lenT lenT' : Nat} {BT BT' : Nat → Int32} {len : Nat} {B : Nat → Int32} {P : List Enm} {K : List Ko} {g g' : Sg} {he he' : Nat} {hs hs' : List Nat} {ca ca' : Nat} {fc fc' : Int32} {F F' : Nat × Nat} {S A : List Nat} (h : ZR G m d tt lenT BT len B P K g he hs ca fc F) (o : OM m m1 d S A) (hS : 3 ∉ S) (hA : ∀ i, 2 ≤ i → i ≤ 40 → i ∉ A) (k1 : gI m1 d 1 = nI lenT' ∧ ∀ i, i < lenT' → gI m1 (d + 1) i = BT' i) (k2 : RSg m1 d P g') (k3 : RTr m1 d g'.2.2.2.2) (k4 : gI m1 d 62 = nI ca' ∧ gI m1 d 63 = fc') (k5 : gI m1 d 71 = nI hs'.length ∧ (hs' ≠ [] → gI m1 d 72 = nI he') ∧ ∀ i c, hs'[i]? = some c → gI m1 (d + 52) i = nI c) (k6 : gI m1 d 54 = nI F'.1 ∧ gI m1 d 55 = if F'.1 = 0 then -1000009 else nI F'.2) : ZR G m1 d tt lenT' BT' len B P K g' he' hs' ca' fc' F' := by
  obtain ⟨h1, ⟨h2, h3⟩, -, h6, h7, -⟩ := h
  have oa : ∀ i, 2 ≤ i → i ≤ 40 → m1.1 (d + i) = m.1 (d + i) := fun i a b => o.2.2.1 _ (by omega) (fun x hx z => hA i a b (by rw [show i = x by omega]; exact hx))
  have hL := h1.kept o
  have o3 := o.I (k := 3) hS
  exact ⟨hL, ⟨o3.trans h2, h3⟩, k1, (congrFun (oa 3 (by omega) (by omega)) _).trans h6, fun z => ⟨(h7 z).1.gen hL o3 (fun i a b => oa i (by omega) b), fun i hi => (congrFun (oa 2 (by omega) (by omega)) _).trans ((h7 z).2 i hi)⟩, k2, k3, k4, k5, k6⟩
theorem ZC.tape {G : GG} {m m1 : MM} {n pl ps tp tl lenT lenT' : Nat} {BT BT' : Nat → Int32} {len : Nat} {B : Nat → Int32} {P : List Enm} {K : List Ko} {gc : Nat → Nat → Nat → Int32} {g : Sg} {he : Nat} {hs : List Nat} {ca : Nat} {fc : Int32} {F : Nat × Nat} (hA : ZA n pl ps tp tl) (h : ZC G m n pl ps tp tl lenT BT len B P K gc g he hs ca fc F) (o : Off m m1 [tp, tp + 1]) (o2 : m1.2.2 = m.2.2) (hT : TP G m1 tp lenT' BT') : ZC G m1 n pl ps tp tl lenT' BT' len B P K gc g he hs ca fc F ∧ OU m m1 (n + 216) := by
  obtain ⟨h1, ⟨h2, h3, h4⟩, h5, h6, h7, h8, ⟨h9, h10, h11⟩, ⟨h12, h13⟩, h14, h15⟩ := h
  obtain ⟨z1, z2, z3, z4, z5, z6⟩ := hA
  have hP8 := h5.2.2.2.2.2.1.1
  unfold PN at z1 z2
  unfold TT at z4 z5
  have R : ∀ a j, gR m1 a j = gR m a j := fun a j => by show m1.2.2 a j = m.2.2 a j; rw [o2]
  have I : ∀ a, a ≠ tp → a ≠ tp + 1 → ∀ j, gI m1 a j = gI m a j := fun a x y j => o.I (by simp; omega) j
  refine ⟨⟨h1.eq o2, ⟨by rw [R]; exact h2, by rw [R]; exact h3, by rw [R]; exact h4⟩, h5.off o (by simp; omega), hT, h7.eq (fun e he => ⟨(o _ (by simp; omega)).1, (o _ (by simp; omega)).1, (o _ (by simp; omega)).1⟩), ⟨by rw [I _ (by omega) (by omega)]; exact h8.1, h8.2.1, fun k v hk => by rw [I _ (by omega) (by omega)]; exact h8.2.2 k v hk⟩, ⟨by rw [I _ (by omega) (by omega)]; exact h9, by rw [I _ (by omega) (by omega)]; exact h10, fun i c hc => by rw [I _ (by omega) (by omega)]; exact h11 i c hc⟩, ⟨by rw [I _ (by omega) (by omega)]; exact h12, by rw [I _ (by omega) (by omega)]; exact h13⟩, by rw [I _ (by omega) (by omega)]; exact h14, by rw [I _ (by omega) (by omega)]; exact h15⟩, fun a ha => o a (by simp; omega)⟩
theorem TP.cut {G : GG} {m : MM} {t len k : Nat} {B : Nat → Int32} (h : TP G m t len B) (hk : k ≤ len) : TP G (sI m t 1 (nI k)) t k (fun i => if i < k then B i else -1) := by
  obtain ⟨t1, t2, t3, t4, t5, t6⟩ := h
  refine ⟨t1, t2, gI_sI_eq, by omega, fun i hi => ?_, fun i hi => by dsimp only; rw [if_neg (by omega)]⟩
  dsimp only
  rw [gI_sI_ne (Or.inl (by omega)), if_pos hi]
  exact t5 i (by omega)
theorem op_end {G : GG} {n : Nat} {m : MM} (h : INV G m n) (x : Int32) : BOTH G n m (M_X10_end G n x) (M_X11_end G (n + 216) x) := by
  have h0 := h
  obtain ⟨pl, ps, tp, tl, tt, lenT, BT, len, B, P, K, gc, g, he, hs, ca, fc, F, hA, hC, hR, hF⟩ := h
  have hC0 := hC
  have hR0 := hR
  obtain ⟨c1, c2, c3, c4, c5, c6, c7, c8, c9, c10⟩ := hC
  obtain ⟨r1, r2, r3, r4, r5, r6, r7, r8, r9, r10, r11⟩ := hR
  have hlT := c4.2.2.2.1
  by_cases z : x < 0
  · refine both_same (v := -1000002) h0 ?_ ?_
    · unfold M_X10_end
      rw [if_pos z]
    · unfold M_X11_end M_X11_in
      rw [if_pos z]
      rfl
  · obtain ⟨k, hk, rfl⟩ := nI_of z
    by_cases w : k ≤ lenT
    · obtain ⟨q1, q2⟩ := hC0.tape hA ((Off.sI (a := tp) (k := 1) (v := nI k)).mono (by simp)) rfl (c4.cut w)
      have o : OM (sI m tp 1 (nI k)) (sI (sI m tp 1 (nI k)) (n + 216) 1 (nI k)) (n + 216) [1] [] := OM.f
      have hR1 := hR0.ou q2
      refine ⟨nI k, sI m tp 1 (nI k), sI (sI m tp 1 (nI k)) (n + 216) 1 (nI k), ?_, ?_, pl, ps, tp, tl, tt, k, (fun i => if i < k then BT i else -1), len, B, P, K, gc, g, he, hs, ca, fc, F, hA, q1.od hA o.od, ?_, hF⟩
      · unfold M_X10_end
        rw [if_neg z, nb_e c2.2.2, c4.2.2.1, if_pos ((nI_leI hk (by omega)).mpr w)]
      · unfold M_X11_end M_X11_in
        rw [if_neg z, hR1.2.2.1.1, if_neg (fun u => absurd ((nI_ltI (by omega) hk).mp u) (by omega))]
        rfl
      · obtain ⟨s1, s2, s3, s4, s5, s6, s7, s8, s9, s10⟩ := hR1
        have gi : ∀ p, p ≠ 1 → gI (sI (sI m tp 1 (nI k)) (n + 216) 1 (nI k)) (n + 216) p = gI (sI m tp 1 (nI k)) (n + 216) p := fun p hp => gI_sI_ne (Or.inr hp)
        have fi : ∀ p, 0 < p → (sI (sI m tp 1 (nI k)) (n + 216) 1 (nI k)).1 (n + 216 + p) = (sI m tp 1 (nI k)).1 (n + 216 + p) := fun p hp => fI hp
        refine (hR0.ou q2).mk o (by simp) (by simp) ⟨gI_sI_eq, fun i hi => ?_⟩ (s6.kept (fun i _ _ => fi i (by omega))) (s7.kept (gi _ (by omega)) (fi _ (by omega))) ⟨by rw [gi _ (by omega)]; exact s8.1, by rw [gi _ (by omega)]; exact s8.2⟩ ⟨by rw [gi _ (by omega)]; exact s9.1, fun u => by rw [gi _ (by omega)]; exact s9.2.1 u, fun i c hc => (congrFun (fi 52 (by omega)) _).trans (s9.2.2 i c hc)⟩ ⟨by rw [gi _ (by omega)]; exact s10.1, by rw [gi _ (by omega)]; exact s10.2⟩
        rw [if_pos hi]
        exact (congrFun (fi 1 (by omega)) _).trans (s3.2 i (by omega))
    · refine both_same (v := -1000002) h0 ?_ ?_
      · unfold M_X10_end
        rw [if_neg z, nb_e c2.2.2, c4.2.2.1, if_neg (fun u => w ((nI_leI hk (by omega)).mp u))]
      · unfold M_X11_end M_X11_in
        rw [if_neg z, r3.1, if_pos ((nI_ltI (by omega) hk).mpr (by omega))]
        rfl
theorem zc_inHand {G : GG} {m : MM} {n N : Nat} {x : Int32} (h9 : gI m n 9 = nI N) (h7 : gR m n 7 = some (n + 213)) (hz : G.2.2 (n + 213) = 12) (hN : N ≤ 12) : (∀ j, j < N → x = nI j → M_X10_isInHand G n x m = some (true, m)) ∧ ((x < 0 ∨ nI N ≤ x) → M_X10_isInHand G n x m = some (false, m)) := by
  unfold M_X10_isInHand
  constructor
  · intro j hj hx
    rw [hx, if_neg (nI_pos (by omega)), h9, if_neg (fun z => absurd ((nI_leI (by omega) (by omega)).mp z) (by omega)), nb_e h7, hz, if_neg (fun z => absurd ((nI_leI (by omega) (by omega)).mp z) (by omega))]
  · intro hx
    by_cases z : x < 0
    · rw [if_pos z]
    · rw [if_neg z, h9, if_pos (hx.resolve_left z)]
theorem set_get {hs : List Nat} {i j a b k c : Nat} (hi : hs[i]? = some a) (hj : hs[j]? = some b) (h : ((hs.set i b).set j a)[k]? = some c) : (k = j ∧ c = a) ∨ (k ≠ j ∧ k = i ∧ c = b) ∨ (k ≠ j ∧ k ≠ i ∧ hs[k]? = some c) := by
  have hil := get_lt hi
  have hjl := get_lt hj
  rw [List.getElem?_set] at h
  by_cases z : j = k
  · subst z
    rw [if_pos rfl] at h
    simp [hjl] at h
    exact Or.inl ⟨rfl, h.symm⟩
  · rw [if_neg z, List.getElem?_set] at h
    by_cases y : i = k
    · subst y
      rw [if_pos rfl] at h
      simp [hil] at h
      exact Or.inr (Or.inl ⟨fun w => z w.symm, rfl, h.symm⟩)
    · rw [if_neg y] at h
      exact Or.inr (Or.inr ⟨fun w => z w.symm, fun w => y w.symm, h⟩)
theorem set_mem {hs : List Nat} {i j a b : Nat} {c : Nat} (hi : hs[i]? = some a) (hj : hs[j]? = some b) (h : c ∈ (hs.set i b).set j a) : c ∈ hs := by
  obtain ⟨k, hk⟩ := List.mem_iff_getElem?.mp h
  rcases set_get hi hj hk with ⟨-, z⟩ | ⟨-, -, z⟩ | ⟨-, -, z⟩
  · rw [z]; exact List.mem_of_getElem? hi
  · rw [z]; exact List.mem_of_getElem? hj
  · exact List.mem_of_getElem? z
/-- a swap in memory -/
theorem sw_get {m : MM} {a i j x y k c : Nat} {hs : List Nat} (hi : hs[i]? = some x) (hj : hs[j]? = some y) (h : ∀ i c, hs[i]? = some c → gI m a i = nI c) (hk : ((hs.set i y).set j x)[k]? = some c) : gI (sI (sI m a i (nI y)) a j (nI x)) a k = nI c := by
  rcases set_get hi hj hk with ⟨z1, z2⟩ | ⟨z1, z2, z3⟩ | ⟨z1, z2, z3⟩
  · rw [z1, z2, gI_sI_eq]
  · rw [gI_sI_ne (Or.inr z1), z2, z3, gI_sI_eq]
  · rw [gI_sI_ne (Or.inr z1), gI_sI_ne (Or.inr z2)]
    exact h k c z3
theorem op_swap {G : GG} {n : Nat} {m : MM} (h : INV G m n) (x y : Int32) : BOTH G n m (M_X10_swap G n x y) (M_X11_swap G (n + 216) x y) := by
  have h0 := h
  obtain ⟨pl, ps, tp, tl, tt, lenT, BT, len, B, P, K, gc, g, he, hs, ca, fc, F, hA, hC, hR, hF⟩ := h
  have hR0 := hR
  obtain ⟨c1, c2, c3, c4, c5, c6, c7, c8, c9, c10⟩ := hC
  obtain ⟨f1, f2, f3, f4, f5, ⟨f6, f6b, f6c⟩, f7, f8, f9, f10⟩ := hF
  have h7 := c1.1.2.2.2.2
  have hz := c1.2.1.2.2.2.2
  unfold BOTH M_X10_swap M_X11_swap
  rcases mr_in (G := G) (m := m) (x := x) (N := hs.length) (by omega) with ⟨i, i1, i2, i3⟩ | ⟨i1, i2⟩
  · rcases mr_in (G := G) (m := m) (x := y) (N := hs.length) (by omega) with ⟨j, j1, j2, j3⟩ | ⟨j1, j2⟩
    · obtain ⟨a, ha⟩ := lt_get i1
      obtain ⟨b, hb⟩ := lt_get j1
      have hN := hA.1
      have hT1 := hA.2.2.2.1
      have hT2 := hA.2.2.2.2.1
      have hP8 := c3.2.2.2.2.2.1.1
      have o1 : Off m (sI (sI m (n + 213) i (nI b)) (n + 213) j (nI a)) [n + 213] := Off.sI.tr1 Off.sI
      have u : OU m (sI (sI m (n + 213) i (nI b)) (n + 213) j (nI a)) (n + 216) := (OU.s (by omega)).tr (OU.s (by omega))
      have hR1 := hR0.ou u
      obtain ⟨s1, s2, s3, s4, s5, s6, s7, s8, s9, s10⟩ := id hR1
      have o : OM (sI (sI m (n + 213) i (nI b)) (n + 213) j (nI a)) (sI (sI (sI (sI m (n + 213) i (nI b)) (n + 213) j (nI a)) (n + 216 + 52) i (nI b)) (n + 216 + 52) j (nI a)) (n + 216) [] [52] := (OM.a (by omega)).tr1 (OM.a (by omega))
      have I : ∀ q, q ≠ n + 213 → ∀ j', gI (sI (sI m (n + 213) i (nI b)) (n + 213) j (nI a)) q j' = gI m q j' := fun q hq j' => o1.I (by simp; exact hq) j'
      unfold PN at hN
      unfold TT at hT1 hT2
      have hCn : ZC G (sI (sI m (n + 213) i (nI b)) (n + 213) j (nI a)) n pl ps tp tl lenT BT len B P K gc g he ((hs.set i b).set j a) ca fc F := ⟨c1.eq rfl, c2, c3.off o1 (by simp; omega), c4.kept o1 (by simp; omega) (by simp; omega), c5.eq (fun e he => ⟨(o1 _ (by simp; omega)).1, (o1 _ (by simp; omega)).1, (o1 _ (by simp; omega)).1⟩), ⟨by rw [I _ (by omega)]; exact c6.1, c6.2.1, fun k v hk => by rw [I _ (by omega)]; exact c6.2.2 k v hk⟩, ⟨by rw [I _ (by omega)]; exact c7.1, by rw [I _ (by omega), List.length_set, List.length_set]; exact c7.2.1, fun k c hk => sw_get ha hb c7.2.2 hk⟩, ⟨by rw [I _ (by omega)]; exact c8.1, by rw [I _ (by omega)]; exact c8.2⟩, by rw [I _ (by omega)]; exact c9, by rw [I _ (by omega)]; exact c10⟩
      refine ⟨1, sI (sI m (n + 213) i (nI b)) (n + 213) j (nI a), sI (sI (sI (sI m (n + 213) i (nI b)) (n + 213) j (nI a)) (n + 216 + 52) i (nI b)) (n + 216 + 52) j (nI a), ?_, ?_, pl, ps, tp, tl, tt, lenT, BT, len, B, P, K, gc, g, he, (hs.set i b).set j a, ca, fc, F, hA, hCn.od hA o.od, ?_, f1, f2, f3, f4, f5, ⟨by rw [List.length_set, List.length_set]; exact f6, f6b, fun hz => ?_⟩, f7, f8, f9, f10⟩
      · rw [bd_e ((zc_inHand c7.2.1 h7 hz f6).1 i i1 i2), if_pos rfl, bd_e ((zc_inHand c7.2.1 h7 hz f6).1 j j1 j2), if_pos rfl, nb_e h7, hz, i2, j2, ib_n (by omega) (by omega), ib_n (by omega) (by omega), ib_n (by omega) (by omega), nI_clamp (by omega), nI_clamp (by omega), c7.2.2 j b hb, c7.2.2 i a ha, nb_e (show gR (sI m (n + 213) i (nI b)) n 7 = some (n + 213) from h7), hz, ib_n (by omega) (by omega)]
      · have e1 : ∀ (mm : MM) (z : Int32) (q : Nat), z = nI q → q < hs.length → M_X11_in G z 0 (nI hs.length - 1) mm = some (true, mm) := fun mm z q hz hq => by
          rcases mr_in (G := G) (m := mm) (x := z) (N := hs.length) (by omega) with ⟨-, -, -, e⟩ | ⟨e, -⟩
          · exact e
          · exfalso
            rw [hz] at e
            rcases e with e | e
            · exact nI_pos (by omega) e
            · have := (nI_leI (by omega) (by omega)).mp e
              omega
        rw [s9.1, bd_e (e1 _ x i i2 i1), if_pos rfl, s9.1, bd_e (e1 _ y j j2 j1), if_pos rfl, nb_e (mr_73 s1), mz_73 s1, i2, j2, ib_n (by omega) (by omega), ib_n (by omega) (by omega), ib_n (by omega) (by omega), nI_clamp (by omega), nI_clamp (by omega), s9.2.2 j b hb, s9.2.2 i a ha, nb_e (show gR (sI (sI (sI m (n + 213) i (nI b)) (n + 213) j (nI a)) (n + 216 + 52) i (nI b)) (n + 216) 73 = some (n + 216 + 52) from mr_73 s1), mz_73 s1, ib_n (by omega) (by omega)]
      · have gi : ∀ p, gI (sI (sI (sI (sI m (n + 213) i (nI b)) (n + 213) j (nI a)) (n + 216 + 52) i (nI b)) (n + 216 + 52) j (nI a)) (n + 216) p = gI (sI (sI m (n + 213) i (nI b)) (n + 213) j (nI a)) (n + 216) p := fun p => by rw [gI_sI_ne (Or.inl (by omega)), gI_sI_ne (Or.inl (by omega))]
        have fi : ∀ p, p ≠ 52 → (sI (sI (sI (sI m (n + 213) i (nI b)) (n + 213) j (nI a)) (n + 216 + 52) i (nI b)) (n + 216 + 52) j (nI a)).1 (n + 216 + p) = (sI (sI m (n + 213) i (nI b)) (n + 213) j (nI a)).1 (n + 216 + p) := fun p hp => by rw [aI hp, aI hp]
        exact hR1.mk o (by simp) (fun i a b => by simp; omega) ⟨by rw [gi]; exact s3.1, fun i hi => (congrFun (fi 1 (by omega)) _).trans (s3.2 i hi)⟩ (s6.kept (fun i _ _ => fi i (by omega))) (s7.kept (gi _) (fi _ (by omega))) ⟨by rw [gi]; exact s8.1, by rw [gi]; exact s8.2⟩ ⟨by rw [gi, List.length_set, List.length_set]; exact s9.1, fun z => by rw [gi]; exact s9.2.1 (fun w => by rw [w] at i1; simp at i1), fun k c hk => sw_get ha hb s9.2.2 hk⟩ ⟨by rw [gi]; exact s10.1, by rw [gi]; exact s10.2⟩
      · obtain ⟨E, e1, e2, e3⟩ := f6c (fun w => by rw [w] at i1; simp at i1)
        exact ⟨E, e1, e2, fun c hc => e3 c (set_mem ha hb hc)⟩
    · exact ⟨-1000002, m, m, by rw [bd_e ((zc_inHand c7.2.1 h7 hz f6).1 i i1 i2), if_pos rfl, bd_e ((zc_inHand c7.2.1 h7 hz f6).2 j1), if_neg (by decide)], by rw [hR0.2.2.2.2.2.2.2.2.1.1, bd_e i3, if_pos rfl, hR0.2.2.2.2.2.2.2.2.1.1, bd_e j2, if_neg (by decide)], h0⟩
  · exact ⟨-1000002, m, m, by rw [bd_e ((zc_inHand c7.2.1 h7 hz f6).2 i1), if_neg (by decide)], by rw [hR0.2.2.2.2.2.2.2.2.1.1, bd_e i2, if_neg (by decide)], h0⟩
