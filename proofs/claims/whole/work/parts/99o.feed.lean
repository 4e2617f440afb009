/-! ===== L2: feed ===== -/
/-- one byte more -/
def snoc (B : Nat → Int32) (len : Nat) (v : Int32) : Nat → Int32 := fun i => if i = len then v else B i
def snl (B : Nat → Int32) : Nat → List Int32 → Nat → Int32
  | _, [] => B
  | len, v :: l => snl (snoc B len v) (len + 1) l
theorem snl_app : ∀ (a b : List Int32) (B : Nat → Int32) (len : Nat), snl B len (a ++ b) = snl (snl B len a) (len + a.length) b := by
  intro a
  induction a with
  | nil => intro b B len; rfl
  | cons v a ih =>
    intro b B len
    rw [List.cons_append, snl, snl, ih, List.length_cons, show len + 1 + a.length = len + (a.length + 1) by omega]
def by4 (x : Int32) : List Int32 := [(x >>> (nI 24 &&& 31)) &&& 255, (x >>> (nI 16 &&& 31)) &&& 255, (x >>> (nI 8 &&& 31)) &&& 255, (x >>> (nI 0 &&& 31)) &&& 255]
theorem bt_b (x : Int32) : x.toInt8.toInt32 &&& 255 = x &&& 255 := by
  apply Int32.toBitVec_inj.mp
  rw [Int32.toBitVec_and, Int32.toBitVec_and, Int8.toBitVec_toInt32, Int32.toBitVec_toInt8]
  apply BitVec.eq_of_getLsbD_eq
  intro i hi
  rw [BitVec.getLsbD_and, BitVec.getLsbD_and]
  have hm : ∀ i < 32, 8 ≤ i → (255 : Int32).toBitVec.getLsbD i = false := by decide
  rcases Nat.lt_or_ge i 8 with z | z
  · rw [BitVec.getLsbD_signExtend, BitVec.getLsbD_signExtend, if_pos z, if_pos hi]
    simp only [z, hi, decide_true, Bool.true_and]
  · rw [hm i hi z]; simp
theorem ap_1 {G : GG} {m : MM} {t len fu : Nat} {B : Nat → Int32} {x : Int32} {s : Nat} (h : TP G m t len B) (hl : len < 2000) (hs : s < 100) : ∃ m1, B_X8_append_3 G (fu + 1) t x (nI s) m = B_X8_append_3 G fu t x (nI s + (-8)) m1 ∧ TP G m1 t (len + 1) (snoc B len ((x >>> (nI s &&& 31)) &&& 255)) ∧ Off m m1 [t, t + 1] ∧ m1.2 = m.2 := by
  obtain ⟨t1, t2, t3, t4, t5, t6⟩ := h
  rw [B_X8_append_3, if_neg (nI_pos (by omega)), nb_e t1, t2, t3, if_neg (fun z => absurd ((nI_leI (by omega) (by omega)).mp z) (by omega)), ib_n (by omega) (by omega), nI_clamp (by omega), gI_sI_ne (Or.inl (by omega)), t3, nI_1, pk_vb]
  refine ⟨_, rfl, ⟨t1, t2, gI_sI_eq, by omega, fun i hi => ?_, fun i hi => ?_⟩, Off.tr1 (Off.sI.mono (by simp)) (Off.sI.mono (by simp)), rfl⟩
  · unfold snoc
    rw [gI_sI_ne (Or.inl (by omega))]
    by_cases w : i = len
    · rw [w, gI_sI_eq, if_pos rfl, bt_b]
    · rw [gI_sI_ne (Or.inr w), if_neg w]
      exact t5 i (by omega)
  · unfold snoc
    rw [if_neg (by omega)]
    exact t6 i (by omega)
theorem ap_4 {G : GG} {m : MM} {t len : Nat} {B : Nat → Int32} {x : Int32} (h : TP G m t len B) (hl : len + 4 ≤ 2000) : ∃ m1, M_X8_append G t x m = some ((), m1) ∧ TP G m1 t (len + 4) (snl B len (by4 x)) ∧ Off m m1 [t, t + 1] ∧ m1.2 = m.2 := by
  unfold M_X8_append
  rw [show FU = 999995 + 1 + 1 + 1 + 1 + 1 from rfl, show (24 : Int32) = nI 24 from rfl]
  obtain ⟨m1, e1, e2, e3, e4⟩ := ap_1 (G := G) (fu := 999995 + 1 + 1 + 1 + 1) (x := x) (s := 24) h (by omega) (by omega)
  obtain ⟨m2, f1, f2, f3, f4⟩ := ap_1 (G := G) (fu := 999995 + 1 + 1 + 1) (x := x) (s := 16) e2 (by omega) (by omega)
  obtain ⟨m3, g1, g2, g3, g4⟩ := ap_1 (G := G) (fu := 999995 + 1 + 1) (x := x) (s := 8) f2 (by omega) (by omega)
  obtain ⟨m4, k1, k2, k3, k4⟩ := ap_1 (G := G) (fu := 999995 + 1) (x := x) (s := 0) g2 (by omega) (by omega)
  rw [e1, show nI 24 + (-8) = nI 16 by decide, f1, show nI 16 + (-8) = nI 8 by decide, g1, show nI 8 + (-8) = nI 0 by decide, k1, B_X8_append_3, if_pos (by decide)]
  exact ⟨m4, rfl, k2, e3.tr1 (f3.tr1 (g3.tr1 k3)), k4.trans (g4.trans (f4.trans e4))⟩
/-- all that is fed -/
def vs20 (a b c d e : Int32) : List Int32 := by4 a ++ by4 b ++ by4 c ++ by4 d ++ by4 e
def RTp (m : MM) (d len : Nat) (B : Nat → Int32) : Prop := gI m d 1 = nI len ∧ ∀ i, i < len → gI m (d + 1) i = B i
theorem shk : ∀ k, k < 20 → ((24 - (8 * (nI k - nI k / 4 * 4))) &&& 31 : Int32) = nI (24 - 8 * (k % 4)) &&& 31 := by decide +kernel
theorem f72 {G : GG} {m : MM} {d len k : Nat} {B : Nat → Int32} {a b c e f s0 : Int32} {k19 : Nat → Int32 → Int32 → Int32 → Int32 → Int32 → Int32 → MM → Option (Int32 × MM)} (hL : LM G m d) (h : RTp m d len B) (hl : len < 2000) (hk : k < 20) : ∃ m1, B_X11_feed_72 G k19 d a b c e f (nI k) s0 m = k19 d a b c e f (nI (k + 1)) m1 ∧ OM m m1 d [1] [1] ∧ LM G m1 d ∧ RTp m1 d (len + 1) (snoc B len ((s0 >>> (nI (24 - 8 * (k % 4)) &&& 31)) &&& 255)) := by
  unfold B_X11_feed_72
  rw [nb_e (mr_0 hL), mz_0 hL, h.1, ib_n (by omega) (by omega), nI_clamp (by omega), nI_1, gI_sI_ne (Or.inl (by omega)), h.1, nI_1, shk k hk]
  have o : OM m (sI (sI m (d + 1) len ((s0 >>> (nI (24 - 8 * (k % 4)) &&& 31)) &&& 255)) d 1 (nI (len + 1))) d [1] [1] := OM.tr1 ((OM.a (by omega)).mono (by simp) (by simp)) (OM.f.mono (by simp) (by simp))
  refine ⟨_, rfl, o, hL.kept o, gI_sI_eq, fun i hi => ?_⟩
  unfold snoc
  rw [gI_sI_ne (Or.inl (by omega))]
  by_cases w : i = len
  · rw [w, gI_sI_eq, if_pos rfl]
  · rw [gI_sI_ne (Or.inr w), if_neg w]
    exact h.2 i (by omega)
theorem fd_loop {G : GG} {d : Nat} {a b c e f : Int32} : ∀ (j k fu len : Nat) (m : MM) (B : Nat → Int32), k + j = 20 → j < fu → LM G m d → RTp m d len B → len + j ≤ 2000 → ∃ m1, B_X11_feed_19 G fu d a b c e f (nI k) m = some (nI (len + j), m1) ∧ OM m m1 d [1] [1] ∧ RTp m1 d (len + j) (snl B len ((vs20 a b c e f).drop k)) := by
  intro j
  induction j with
  | zero =>
    intro k fu len m B hk hf hL h hl
    cases fu with
    | zero => omega
    | succ fu =>
    have : k = 20 := by omega
    subst this
    rw [B_X11_feed_19, if_pos (by decide), h.1]
    exact ⟨m, rfl, OM.rf, h⟩
  | succ j ih =>
    intro k fu len m B hk hf hL h hl
    cases fu with
    | zero => omega
    | succ fu =>
    have step : ∀ (s0 v : Int32) (l : List Int32), B_X11_feed_19 G (fu + 1) d a b c e f (nI k) m = B_X11_feed_72 G (B_X11_feed_19 G fu) d a b c e f (nI k) s0 m → (vs20 a b c e f).drop k = v :: l → l = (vs20 a b c e f).drop (k + 1) → v = (s0 >>> (nI (24 - 8 * (k % 4)) &&& 31)) &&& 255 → ∃ m1, B_X11_feed_19 G (fu + 1) d a b c e f (nI k) m = some (nI (len + (j + 1)), m1) ∧ OM m m1 d [1] [1] ∧ RTp m1 d (len + (j + 1)) (snl B len ((vs20 a b c e f).drop k)) := fun s0 v l e1 e2 e3 e4 => by
      obtain ⟨m1, f1, f2, f3, f4⟩ := f72 (k19 := B_X11_feed_19 G fu) (a := a) (b := b) (c := c) (e := e) (f := f) (s0 := s0) hL h (by omega) (show k < 20 by omega)
      obtain ⟨m2, g1, g2, g3⟩ := ih (k + 1) fu (len + 1) m1 _ (by omega) (by omega) f3 f4 (by omega)
      rw [e1, f1, g1, e2, snl, e3, e4, show len + 1 + j = len + (j + 1) by omega] at *
      exact ⟨m2, rfl, f2.tr1 g2, g3⟩
    rcases (show k = 0 ∨ k = 1 ∨ k = 2 ∨ k = 3 ∨ k = 4 ∨ k = 5 ∨ k = 6 ∨ k = 7 ∨ k = 8 ∨ k = 9 ∨ k = 10 ∨ k = 11 ∨ k = 12 ∨ k = 13 ∨ k = 14 ∨ k = 15 ∨ k = 16 ∨ k = 17 ∨ k = 18 ∨ k = 19 by omega) with w | w | w | w | w | w | w | w | w | w | w | w | w | w | w | w | w | w | w | w <;> subst w
    · exact step a _ _ (by rw [B_X11_feed_19, if_neg (by decide), if_neg (by decide)]) rfl rfl rfl
    · exact step a _ _ (by rw [B_X11_feed_19, if_neg (by decide), if_neg (by decide)]) rfl rfl rfl
    · exact step a _ _ (by rw [B_X11_feed_19, if_neg (by decide), if_neg (by decide)]) rfl rfl rfl
    · exact step a _ _ (by rw [B_X11_feed_19, if_neg (by decide), if_neg (by decide)]) rfl rfl rfl
    · exact step b _ _ (by rw [B_X11_feed_19, if_neg (by decide), if_pos (by decide), if_neg (by decide)]) rfl rfl rfl
    · exact step b _ _ (by rw [B_X11_feed_19, if_neg (by decide), if_pos (by decide), if_neg (by decide)]) rfl rfl rfl
    · exact step b _ _ (by rw [B_X11_feed_19, if_neg (by decide), if_pos (by decide), if_neg (by decide)]) rfl rfl rfl
    · exact step b _ _ (by rw [B_X11_feed_19, if_neg (by decide), if_pos (by decide), if_neg (by decide)]) rfl rfl rfl
    · exact step c _ _ (by rw [B_X11_feed_19, if_neg (by decide), if_pos (by decide), if_pos (by decide), if_neg (by decide)]) rfl rfl rfl
    · exact step c _ _ (by rw [B_X11_feed_19, if_neg (by decide), if_pos (by decide), if_pos (by decide), if_neg (by decide)]) rfl rfl rfl
    · exact step c _ _ (by rw [B_X11_feed_19, if_neg (by decide), if_pos (by decide), if_pos (by decide), if_neg (by decide)]) rfl rfl rfl
    · exact step c _ _ (by rw [B_X11_feed_19, if_neg (by decide), if_pos (by decide), if_pos (by decide), if_neg (by decide)]) rfl rfl rfl
    · exact step e _ _ (by rw [B_X11_feed_19, if_neg (by decide), if_pos (by decide), if_pos (by decide), if_pos (by decide), if_neg (by decide)]) rfl rfl rfl
    · exact step e _ _ (by rw [B_X11_feed_19, if_neg (by decide), if_pos (by decide), if_pos (by decide), if_pos (by decide), if_neg (by decide)]) rfl rfl rfl
    · exact step e _ _ (by rw [B_X11_feed_19, if_neg (by decide), if_pos (by decide), if_pos (by decide), if_pos (by decide), if_neg (by decide)]) rfl rfl rfl
    · exact step e _ _ (by rw [B_X11_feed_19, if_neg (by decide), if_pos (by decide), if_pos (by decide), if_pos (by decide), if_neg (by decide)]) rfl rfl rfl
    · exact step f _ _ (by rw [B_X11_feed_19, if_neg (by decide), if_pos (by decide), if_pos (by decide), if_pos (by decide), if_pos (by decide)]) rfl rfl rfl
    · exact step f _ _ (by rw [B_X11_feed_19, if_neg (by decide), if_pos (by decide), if_pos (by decide), if_pos (by decide), if_pos (by decide)]) rfl rfl rfl
    · exact step f _ _ (by rw [B_X11_feed_19, if_neg (by decide), if_pos (by decide), if_pos (by decide), if_pos (by decide), if_pos (by decide)]) rfl rfl rfl
    · exact step f _ _ (by rw [B_X11_feed_19, if_neg (by decide), if_pos (by decide), if_pos (by decide), if_pos (by decide), if_pos (by decide)]) rfl rfl rfl
theorem op_feed {G : GG} {n : Nat} {m : MM} (h : INV G m n) (a b c d e : Int32) : BOTH G n m (M_X10_feed G n a b c d e) (M_X11_feed G (n + 216) a b c d e) := by
  have h0 := h
  obtain ⟨pl, ps, tp, tl, tt, lenT, BT, len, B, P, K, gc, g, hd, hs, ca, fc, F, hA, hC, hR, hF⟩ := h
  have c4 := hC.2.2.2.1
  have c2 := hC.2.1
  have hlT := c4.2.2.2.1
  unfold BOTH M_X10_feed M_X11_feed
  by_cases w : lenT + 20 ≤ 2000
  · obtain ⟨m1, e1, e2, e3, e4⟩ := ap_4 (x := a) c4 (by omega)
    obtain ⟨m2, f1, f2, f3, f4⟩ := ap_4 (x := b) e2 (by omega)
    obtain ⟨m3, g1, g2, g3, g4⟩ := ap_4 (x := c) f2 (by omega)
    obtain ⟨m4, k1, k2, k3, k4⟩ := ap_4 (x := d) g2 (by omega)
    obtain ⟨m5, l1, l2, l3, l4⟩ := ap_4 (x := e) k2 (by omega)
    have r1 : ∀ j, gR m1 n j = gR m n j := fun j => by show m1.2.2 n j = m.2.2 n j; rw [e4]
    have r2 : ∀ j, gR m2 n j = gR m1 n j := fun j => by show m2.2.2 n j = m1.2.2 n j; rw [f4]
    have r3 : ∀ j, gR m3 n j = gR m2 n j := fun j => by show m3.2.2 n j = m2.2.2 n j; rw [g4]
    have r4 : ∀ j, gR m4 n j = gR m3 n j := fun j => by show m4.2.2 n j = m3.2.2 n j; rw [k4]
    have r5 : ∀ j, gR m5 n j = gR m4 n j := fun j => by show m5.2.2 n j = m4.2.2 n j; rw [l4]
    have q1 : gR m1 n 2 = some tp := (r1 2).trans c2.2.2
    have q2 : gR m2 n 2 = some tp := (r2 2).trans q1
    have q3 : gR m3 n 2 = some tp := (r3 2).trans q2
    have q4 : gR m4 n 2 = some tp := (r4 2).trans q3
    have q5 : gR m5 n 2 = some tp := (r5 2).trans q4
    have eB : snl (snl (snl (snl (snl BT lenT (by4 a)) (lenT + 4) (by4 b)) (lenT + 4 + 4) (by4 c)) (lenT + 4 + 4 + 4) (by4 d)) (lenT + 4 + 4 + 4 + 4) (by4 e) = snl BT lenT (vs20 a b c d e) := by
      unfold vs20
      rw [snl_app, snl_app, snl_app, snl_app]
      rfl
    rw [eB, show lenT + 4 + 4 + 4 + 4 + 4 = lenT + 20 by omega] at l2
    have oo : m5.2 = m.2 := l4.trans (k4.trans (g4.trans (f4.trans e4)))
    obtain ⟨hC5, u5⟩ := hC.tape hA (e3.tr1 (f3.tr1 (g3.tr1 (k3.tr1 l3)))) (by rw [oo]) l2
    have hR5 := hR.ou u5
    obtain ⟨m6, s1, s2, s3⟩ := fd_loop (G := G) (d := n + 216) (a := a) (b := b) (c := c) (e := d) (f := e) 20 0 FU lenT m5 BT (by omega) (by unfold FU; omega) hR5.1 hR5.2.2.1 (by omega)
    rw [List.drop_zero] at s3
    obtain ⟨t1, t2, t3, t4, t5, t6, t7, t8, t9, t10⟩ := id hR5
    have fa : ∀ p, 0 < p → p ≠ 1 → m6.1 (n + 216 + p) = m5.1 (n + 216 + p) := fun p hp hq => s2.2.2.1 _ (by omega) (fun x hx => by simp at hx; omega)
    have fl : ∀ p, p ≠ 1 → gI m6 (n + 216) p = gI m5 (n + 216) p := fun p hq => s2.I (by simp; omega)
    refine ⟨nI (lenT + 20), m5, m6, ?_, ?_, pl, ps, tp, tl, tt, lenT + 20, snl BT lenT (vs20 a b c d e), len, B, P, K, gc, g, hd, hs, ca, fc, F, hA, hC5.od hA s2.od, hR5.mk s2 (by simp) (fun i a b => by simp; omega) s3 (t6.kept (fun i _ _ => fa _ (by omega) (by omega))) (t7.kept (fl _ (by omega)) (fa _ (by omega) (by omega))) ⟨by rw [fl _ (by omega)]; exact t8.1, by rw [fl _ (by omega)]; exact t8.2⟩ ⟨by rw [fl _ (by omega)]; exact t9.1, fun z => by rw [fl _ (by omega)]; exact t9.2.1 z, fun i c hc => (congrFun (fa _ (by omega) (by omega)) _).trans (t9.2.2 i c hc)⟩ ⟨by rw [fl _ (by omega)]; exact t10.1, by rw [fl _ (by omega)]; exact t10.2⟩, hF⟩
    · rw [nb_e c2.2.2, c4.2.2.1, show (1980 : Int32) = nI 1980 from rfl, if_pos ((nI_leI (by omega) (by omega)).mpr (by omega)), bd_e e1, nb_e q1, bd_e f1, nb_e q2, bd_e g1, nb_e q3, bd_e k1, nb_e q4, bd_e l1, nb_e q5, l2.2.2.1]
    · rw [nI_0] at s1
      rw [hR5.2.2.1.1, show (20 : Int32) = nI 20 from rfl, nI_add, show (2000 : Int32) = nI 2000 from rfl, if_pos ((nI_leI (by omega) (by omega)).mpr (by omega)), s1]
  · refine ⟨-1000004, m, m, ?_, ?_, h0⟩
    · rw [nb_e c2.2.2, c4.2.2.1, show (1980 : Int32) = nI 1980 from rfl, if_neg (fun z => absurd ((nI_leI (by omega) (by omega)).mp z) (by omega))]
    · rw [hR.2.2.1.1, show (20 : Int32) = nI 20 from rfl, nI_add, show (2000 : Int32) = nI 2000 from rfl, if_neg (fun z => absurd ((nI_leI (by omega) (by omega)).mp z) (by omega))]
