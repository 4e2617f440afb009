/-! ===== L2: calls that change nothing ===== -/
theorem both_same {G : GG} {n : Nat} {m : MM} {X Y : MM → Option (Int32 × MM)} {v : Int32} (h : INV G m n) (hx : X m = some (v, m)) (hy : Y m = some (v, m)) : BOTH G n m X Y := ⟨v, m, m, hx, hy, h⟩
theorem i32_01 {x : Int32} (h1 : ¬ x < 0) (h2 : x ≤ 1) (h3 : ¬ x = 0) : x = 1 := by
  obtain ⟨j, hj, rfl⟩ := nI_of h1
  have h2 := (nI_leI (b := 1) hj (by omega)).mp h2
  have h3 : j ≠ 0 := fun z => h3 (by rw [z, nI_0])
  rw [show j = 1 by omega]
  rfl
theorem op_fault {G : GG} {n : Nat} {m : MM} (h : INV G m n) (x : Int32) : BOTH G n m (M_X10_fault G n x) (M_X11_fault G (n + 216) x) := by
  have h0 := h
  obtain ⟨pl, ps, tp, tl, tt, lenT, BT, len, B, P, K, gc, g, he, hs, ca, fc, F, hA, hC, hR, hF⟩ := h
  obtain ⟨c1, c2, c3, c4, c5, c6, c7, c8, c9, c10⟩ := hC
  obtain ⟨r1, r2, r3, r4, r5, r6, r7, r8, r9, r10, r11⟩ := hR
  obtain ⟨f1, f2, f3, f4, f5, f6, f7, f8, f9, f10⟩ := hF
  by_cases w : x = 0
  · refine both_same (v := nI F.1) h0 ?_ ?_
    · unfold M_X10_fault
      rw [w, if_neg (by decide), if_pos (by decide), if_pos rfl, nb_e c1.1.1, c9]
    · unfold M_X11_fault
      rw [if_pos w, r10]
  by_cases w1 : x = 1
  · by_cases z : F.1 = 0
    · refine both_same (v := -1000009) h0 ?_ ?_
      · unfold M_X10_fault
        rw [w1, if_neg (by decide), if_pos (by decide), if_neg (by decide), nb_e c1.1.1, c9, z, if_pos nI_0]
      · unfold M_X11_fault
        rw [if_neg w, if_pos w1, r11, if_pos z]
    · refine both_same (v := nI F.2) h0 ?_ ?_
      · unfold M_X10_fault
        rw [w1, if_neg (by decide), if_pos (by decide), if_neg (by decide), nb_e c1.1.1, c9, if_neg (kne (v := 0) (b := 0) nI_0.symm (by omega) (by omega) z), c10]
      · unfold M_X11_fault
        rw [if_neg w, if_pos w1, r11, if_neg z]
  refine both_same (v := -1000002) h0 ?_ ?_
  · unfold M_X10_fault
    by_cases z : x < 0
    · rw [if_pos z]
    · rw [if_neg z, if_neg (fun u => w1 (i32_01 z u w))]
  · unfold M_X11_fault
    rw [if_neg w, if_neg w1]
theorem op_cause {G : GG} {n : Nat} {m : MM} (h : INV G m n) : BOTH G n m (M_X10_cause G n) (M_X11_cause G (n + 216)) := by
  have h0 := h
  obtain ⟨pl, ps, tp, tl, tt, lenT, BT, len, B, P, K, gc, g, he, hs, ca, fc, F, hA, hC, hR, hF⟩ := h
  obtain ⟨c1, c2, c3, c4, c5, c6, c7, c8, c9, c10⟩ := hC
  obtain ⟨r1, r2, r3, r4, r5, r6, r7, r8, r9, r10, r11⟩ := hR
  refine both_same (v := nI ca) h0 ?_ ?_
  · unfold M_X10_cause
    rw [c8.1]
  · unfold M_X11_cause
    rw [r8.1]
theorem op_trace {G : GG} {n : Nat} {m : MM} (h : INV G m n) (x : Int32) : BOTH G n m (M_X10_trace G n x) (M_X11_trace G (n + 216) x) := by
  have h0 := h
  obtain ⟨pl, ps, tp, tl, tt, lenT, BT, len, B, P, K, gc, g, he, hs, ca, fc, F, hA, hC, hR, hF⟩ := h
  obtain ⟨c1, c2, c3, c4, c5, c6, c7, c8, c9, c10⟩ := hC
  obtain ⟨r1, r2, r3, r4, r5, r6, r7, r8, r9, r10, r11⟩ := hR
  have ht := c6.2.1
  unfold BOTH M_X10_trace M_X11_trace
  rcases mr_in (G := G) (m := m) (x := x) (N := g.2.2.2.2.length) (by omega) with ⟨j, j1, j2, j3⟩ | ⟨j1, j2⟩
  · obtain ⟨v, hv⟩ := lt_get j1
    refine ⟨v, m, m, ?_, ?_, h0⟩
    · rw [j2, if_neg (nI_pos (by omega)), nb_e c1.1.2.2.2.1, c6.1, if_neg (fun z => absurd ((nI_leI (by omega) (by omega)).mp z) (by omega)), show (200 : Int32) = nI 200 from rfl, if_pos ((nI_ltI (by omega) (by omega)).mpr (by omega)), nb_e c1.2.1.1, c1.2.1.2.2.1, ib_n (by omega) (by omega), nI_clamp (by omega), c6.2.2 j v hv]
    · rw [r7.1, bd_e j3, if_pos rfl, nb_e (mr_60 r1), mz_60 r1, j2, ib_n (by omega) (by omega), nI_clamp (by omega), r7.2.2 j v hv]
  · refine ⟨-1000009, m, m, ?_, by rw [r7.1, bd_e j2, if_neg (by decide)], h0⟩
    by_cases z : x < 0
    · rw [if_pos z]
    · rw [if_neg z, nb_e c1.1.2.2.2.1, c6.1, if_pos (j1.resolve_left z)]
theorem op_count {G : GG} {n : Nat} {m : MM} (h : INV G m n) (x : Int32) : BOTH G n m (M_X10_count G n x) (M_X11_count G (n + 216) x) := by
  have h0 := h
  obtain ⟨pl, ps, tp, tl, tt, lenT, BT, len, B, P, K, gc, g, he, hs, ca, fc, F, hA, hC, hR, hF⟩ := h
  obtain ⟨c1, c2, c3, c4, c5, c6, c7, c8, c9, c10⟩ := hC
  obtain ⟨r1, r2, r3, r4, r5, r6, r7, r8, r9, r10, r11⟩ := hR
  have ht := r2.2
  unfold BOTH M_X10_count M_X11_count
  by_cases w0 : x = 0
  · exact ⟨nI P.length, m, m, by rw [if_pos w0, nb_e c2.1, c3.2.2.2.2.1], by rw [if_pos w0, nb_e (mr_6 r1), mz_6 r1, r2.1, ib_n (by omega) (by omega), nI_clamp (by omega), r4], h0⟩
  by_cases w1 : x = 1
  · exact ⟨nI g.2.2.2.2.length, m, m, by rw [if_neg w0, if_pos w1, nb_e c1.1.2.2.2.1, c6.1], by rw [if_neg w0, if_pos w1, r7.1], h0⟩
  by_cases w2 : x = 2
  · exact ⟨nI hs.length, m, m, by rw [if_neg w0, if_neg w1, if_pos w2, c7.2.1], by rw [if_neg w0, if_neg w1, if_pos w2, r9.1], h0⟩
  by_cases w3 : x = 3
  · exact ⟨nI lenT, m, m, by rw [if_neg w0, if_neg w1, if_neg w2, if_pos w3, nb_e c2.2.2, c4.2.2.1], by rw [if_neg w0, if_neg w1, if_neg w2, if_pos w3, r3.1], h0⟩
  by_cases w4 : x = 4
  · exact ⟨fc, m, m, by rw [if_neg w0, if_neg w1, if_neg w2, if_neg w3, if_pos w4, c8.2], by rw [if_neg w0, if_neg w1, if_neg w2, if_neg w3, if_pos w4, r8.2], h0⟩
  exact ⟨-1000002, m, m, by rw [if_neg w0, if_neg w1, if_neg w2, if_neg w3, if_neg w4], by rw [if_neg w0, if_neg w1, if_neg w2, if_neg w3, if_neg w4], h0⟩
theorem op_hasBody {G : GG} {n : Nat} {m : MM} (h : INV G m n) (x y : Int32) : BOTH G n m (M_X10_hasBody G n x y) (M_X11_hasBody G (n + 216) x y) := by
  have h0 := h
  obtain ⟨pl, ps, tp, tl, tt, lenT, BT, len, B, P, K, gc, g, he, hs, ca, fc, F, hA, hC, hR, hF⟩ := h
  obtain ⟨c1, c2, c3, c4, c5, c6, c7, c8, c9, c10⟩ := hC
  have hP := c3.2.2.2.2.2.1
  unfold BOTH M_X10_hasBody M_X11_hasBody
  rcases zz_const hP hR x y with ⟨e, E, c, hE, hx, hc, hy, hi⟩ | ⟨hx, hi⟩
  · obtain ⟨b1, b2, b3, b4, b5, b6, b7⟩ := pb_en hP hE
    have hne : P ≠ [] := fun z => by rw [z] at hE; simp at hE
    obtain ⟨r1, r2, r3, r4, r5, r6, r7, r8, r9, r10, r11⟩ := hR
    have he := get_lt hE
    obtain ⟨q, hq⟩ := lt_get hc
    have hq1 := (b6 q (List.mem_of_getElem? hq)).2.2
    have hl2 := cv_le c3 he 2 (by omega)
    have hz2 : G.2.2 (pl + 4 + 12 * e + 1 + 2) = 12 := hl2.2
    have htt := r2.2
    have k1 : gI m (pl + 4 + 12 * e + 3) c = nI q.2.2 := ((c3.2.2.2.2.2.2 e E hE).2.1.2.2.2.2.2.2.1 c q hq).2.2
    have k2 : gI m (n + 216 + 14) (12 * (8 * tt + e) + c) = nI q.2.2 := (((r5 hne).1.2.2.2.1.2 e E hE).2.2.1.2 c q hq).2.2.2
    refine ⟨nI q.2.2, m, m, ?_, ?_, h0⟩
    · rw [nb_e c2.1, hx, hy, bd_e (cv_en c3 he), el_e rfl, bd_e (cv_hasC c3 hE hc), if_pos rfl, nb_e hl2.1, hz2, ib_n (by omega) (by omega), nI_clamp (by omega), show pl + 4 + 12 * e + 1 + 2 = pl + 4 + 12 * e + 3 by omega, k1]
      by_cases z : q.2.2 = 0
      · rw [z, if_pos nI_0, nI_0]
      · rw [if_neg (kne (v := 0) (b := 0) nI_0.symm (by omega) (by omega) z), show q.2.2 = 1 by omega]
        rfl
    · rw [bd_e hi, if_pos rfl, nb_e (mr_17 r1), r2.1, hx, hy, show (8 : Int32) = nI 8 from rfl, pk_mul, nI_add, show (12 : Int32) = nI 12 from rfl, pk_mul, nI_add, mz_17 r1, ib_n (by omega) (by omega), nI_clamp (by omega), k2]
  · refine ⟨-1000001, m, m, ?_, by rw [bd_e hi, if_neg (by decide)], h0⟩
    rcases hx with hx | ⟨e, E, hE, hx, hy⟩
    · rw [nb_e c2.1, bd_e (zc_enum c3 hx), el_n rfl]
    · rw [nb_e c2.1, hx, bd_e (cv_en c3 (get_lt hE)), el_e rfl, bd_e (zc_hasC (c3.2.2.2.2.2.2 e E hE).2.1.2.1 hy), if_neg (by decide)]
/-- fields by 'const' -/
def c8 (l : List Mem) : Nat := (l.filter (fun q => decide (q.1 = 8))).length
theorem c8_wks : ∀ (ms : List Mem), (wks ms).length + c8 (fls ms) = (fls ms).length := by
  intro ms
  induction ms with
  | nil => rfl
  | cons q ms ih =>
    unfold wks fls c8 at ih ⊢
    by_cases h7 : q.1 = 7
    · rw [List.filter_cons_of_pos (by simp [h7]), List.filter_cons_of_pos (by simp [h7]), List.filter_cons_of_neg (by simp [h7]), List.length_cons, List.length_cons]
      omega
    · by_cases h8 : q.1 = 8
      · rw [List.filter_cons_of_neg (by simp [h7]), List.filter_cons_of_pos (by simp [h8]), List.filter_cons_of_pos (by simp [h8]), List.length_cons, List.length_cons]
        omega
      · rw [List.filter_cons_of_neg (by simp [h7]), List.filter_cons_of_neg (by simp [h7, h8])]
        exact ih
theorem c8_take {l : List Mem} {k : Nat} {q : Mem} (h : l[k]? = some q) : c8 (l.take (k + 1)) = c8 (l.take k) + if q.1 = 8 then 1 else 0 := by
  unfold c8
  rw [List.take_add_one, h, List.filter_append, List.length_append]
  by_cases h8 : q.1 = 8
  · rw [if_pos h8]
    simp [h8]
  · rw [if_neg h8]
    simp [h8]
def tldR (m : MM) (d tt e : Nat) (E : Enm) (x2 : Int32) (st : Nat) : Int32 := if x2 = 0 then nI E.2.1.length else if x2 = 1 then nI (mbs E.2.2).length else if x2 = 2 then nI (wks E.2.2).length else if x2 = 3 then nI (c8 (fls E.2.2)) else if x2 = 4 then nI st else -1000002
theorem mr_told {G : GG} {m : MM} {d tt e : Nat} {B : Nat → Int32} {K : List Ko} {P : List Enm} {E : Enm} {g : Sg} {x2 : Int32} (hP : PB P) (h : RQ G m d tt B K P) (hS : RSg m d P g) (hE : P[e]? = some E) (hK : (aK K).length ≤ 2000) : ∀ (fu k : Nat), (fls E.2.2).length - k < fu → k ≤ (fls E.2.2).length → B_X11_told_17 G fu d (nI e) x2 (nI (c8 ((fls E.2.2).take k))) (nI k) m = some (tldR m d tt e E x2 (g.1 e), m) := by
  obtain ⟨b1, b2, b3, b4, b5, b6, b7⟩ := pb_en hP hE
  have htt := h.2.2.1
  have hL := h.1
  have hq := h.2.2.2.1.2 e E hE
  have n1 : gI m (d + 6) (8 * tt + e) = nI E.2.1.length := hq.2.2.1.1
  have n2 : gI m (d + 7) (8 * tt + e) = nI (mbs E.2.2).length := hq.2.2.2.1.1
  have n3 : gI m (d + 8) (8 * tt + e) = nI (fls E.2.2).length := hq.2.2.2.2.1.1
  have hcw := c8_wks E.2.2
  intro fu
  induction fu with
  | zero => intro k hk; omega
  | succ fu ih =>
    intro k hfu hk
    rw [B_X11_told_17, nb_e (mr_11 hL), h.2.1, show (8 : Int32) = nI 8 from rfl, pk_mul, nI_add, mz_11 hL, ib_n (by omega) (by omega), nI_clamp (by omega), n3]
    by_cases w : (fls E.2.2).length ≤ k
    · have ek : (fls E.2.2).take k = fls E.2.2 := List.take_of_length_le w
      rw [if_pos ((nI_leI (by omega) (by omega)).mpr w), ek]
      unfold tldR
      by_cases w0 : x2 = 0
      · rw [if_pos w0, if_pos w0, nb_e (mr_9 hL), mz_9 hL, ib_n (by omega) (by omega), n1]
      rw [if_neg w0, if_neg w0]
      by_cases w1 : x2 = 1
      · rw [if_pos w1, if_pos w1, nb_e (mr_10 hL), mz_10 hL, ib_n (by omega) (by omega), n2]
      rw [if_neg w1, if_neg w1]
      by_cases w2 : x2 = 2
      · rw [if_pos w2, if_pos w2, ib_n (by omega) (by omega), pk_sub (by omega), show (fls E.2.2).length - c8 (fls E.2.2) = (wks E.2.2).length by omega]
      rw [if_neg w2, if_neg w2]
      by_cases w3 : x2 = 3
      · rw [if_pos w3, if_pos w3]
      rw [if_neg w3, if_neg w3]
      by_cases w4 : x2 = 4
      · rw [if_pos w4, if_pos w4, nb_e (mr_56 hL), mz_56 hL, ib_n (by omega) (by omega), nI_clamp (by omega), (hS e E hE).1]
      rw [if_neg w4, if_neg w4]
    · obtain ⟨y, hy⟩ := lt_get (show k < (fls E.2.2).length by omega)
      obtain ⟨y1, y2⟩ := List.mem_filter.mp (List.mem_of_getElem? hy)
      simp only [Bool.or_eq_true, decide_eq_true_eq] at y2
      obtain ⟨k1, k2, k3, k4⟩ := hq.2.2.2.2.1.2 k y hy
      rw [if_neg (fun z => w ((nI_leI (by omega) (by omega)).mp z)), nb_e (mr_25 hL), show (6 : Int32) = nI 6 from rfl, pk_mul, nI_add, mz_25 hL, ib_n (by omega) (by omega), nI_clamp (by omega), nI_1]
      have := ih (k + 1) (by omega) (by omega)
      rw [c8_take hy] at this
      by_cases y8 : y.1 = 8
      · rw [(k3 y8).1, if_neg (by decide), nI_1]
        rw [if_pos y8] at this
        exact this
      · obtain ⟨s, q1, q2, q3⟩ := k4 (by omega)
        have hct := q1.act.2
        rw [q2, if_pos (nI_pos' (by omega)), show (0 : Int32) = nI 0 from nI_0.symm, nI_add]
        rw [if_neg y8] at this
        exact this
theorem op_told {G : GG} {n : Nat} {m : MM} (h : INV G m n) (x y : Int32) : BOTH G n m (M_X10_told G n x y) (M_X11_told G (n + 216) x y) := by
  have h0 := h
  obtain ⟨pl, ps, tp, tl, tt, lenT, BT, len, B, P, K, gc, g, he, hs, ca, fc, F, hA, hC, hR, hF⟩ := h
  obtain ⟨c1, c2, c3, c4, c5, c6, c7, c8', c9, c10⟩ := hC
  have hP := c3.2.2.2.2.2.1
  unfold BOTH M_X10_told M_X11_told
  rcases zz_enum hP hR x with ⟨e, E, hE, hx, hi⟩ | ⟨hx, hi⟩
  · obtain ⟨b1, b2, b3, b4, b5, b6, b7⟩ := pb_en hP hE
    have hne : P ≠ [] := fun z => by rw [z] at hE; simp at hE
    obtain ⟨r1, r2, r3, r4, r5, r6, r7, r8, r9, r10, r11⟩ := hR
    have he := get_lt hE
    have hcw := c8_wks E.2.2
    obtain ⟨e1, e2, e3, e4, e5, -⟩ := (c3.2.2.2.2.2.2 e E hE).2.1
    refine ⟨tldR m (n + 216) tt e E y (g.1 e), m, m, ?_, ?_, h0⟩
    · rw [nb_e c2.1, hx, bd_e (cv_en c3 he), el_e rfl, e2, e3, e4, e5, (c5 e E hE).1]
      unfold tldR
      by_cases w0 : y = 0
      · rw [if_pos w0, if_pos w0]
      rw [if_neg w0, if_neg w0]
      by_cases w1 : y = 1
      · rw [if_pos w1, if_pos w1]
      rw [if_neg w1, if_neg w1]
      by_cases w2 : y = 2
      · rw [if_pos w2, if_pos w2]
      rw [if_neg w2, if_neg w2]
      by_cases w3 : y = 3
      · rw [if_pos w3, if_pos w3, pk_sub (by omega), show (fls E.2.2).length - (wks E.2.2).length = c8 (fls E.2.2) by omega]
      rw [if_neg w3, if_neg w3]
      by_cases w4 : y = 4
      · rw [if_pos w4, if_pos w4]
      rw [if_neg w4, if_neg w4]
    · rw [bd_e hi, if_pos rfl, hx]
      have := mr_told (x2 := y) hP (r5 hne).1 r6 hE hF.2.1 FU 0 (by unfold FU; omega) (by omega)
      rw [nI_0] at this
      exact this
  · refine ⟨-1000001, m, m, ?_, by rw [bd_e hi, if_neg (by decide)], h0⟩
    rw [nb_e c2.1, bd_e (zc_enum c3 hx), el_n rfl]
