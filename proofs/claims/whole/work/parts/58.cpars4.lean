/-! ===== L2: the class's parser: enumerations and the text ===== -/
theorem cp_mm {G : GG} {m : MM} {n pg k p fu i : Nat} {L : List Tok} {K : List Ko} {Q : List Enm} {cs : List Con} {ms : List Mem} (hN : PN n pg) (hE : EL L) (h : PS G m n pg L k K (Q ++ [(p, cs, ms)])) (ho : gR m (n + 204) 4 = some (pg + 4 + 12 * Q.length)) (hi : i < 2000) (hm : 133 ≤ hd (L.drop k) ∧ hd (L.drop k) ≤ 137) : (∀ ms1 K1 r, pMm Q.length ms K (L.drop k) = (some (ms1, K1), r) → GD G n pg L (k + 1) m (B_X5_readMembers_26 G (fu + 1) (n + 204) true (nI i) m) (fun m => B_X5_readMembers_26 G fu (n + 204) true (nI (i + 1)) m) K1 (Q ++ [(p, cs, ms1)]) r) ∧ ∀ r, pMm Q.length ms K (L.drop k) = (none, r) → BA G n pg L m (B_X5_readMembers_26 G (fu + 1) (n + 204) true (nI i) m) (fun m => B_X5_readMembers_26 G fu (n + 204) false (nI (i + 1)) m) r := by
  obtain ⟨t, ht, t3, t4, t5, b1, b2, b3, u1, u2, u3, u4⟩ := h.cur
  have hn : hd (L.drop k) ≠ 130 := by omega
  rw [B_X5_readMembers_26, show (2000 : Int32) = nI 2000 from rfl, if_neg (fun z => absurd ((nI_leI (by omega) (by omega)).mp z) (by omega)), if_pos rfl, nb_e h.1.1, t3, nI_1]
  unfold pMm
  have wrap : ∀ (X : Option (Bool × MM)) (ms1 : List Mem) (K1 : List Ko) (r : List Tok), GD G n pg L (k + 1) m X tt K1 (Q ++ [(p, cs, ms1)]) r → GD G n pg L (k + 1) m (bd X fun r_2 m_3 => B_X5_readMembers_26 G fu (n + 204) r_2 (nI (i + 1)) m_3) (fun m => B_X5_readMembers_26 G fu (n + 204) true (nI (i + 1)) m) K1 (Q ++ [(p, cs, ms1)]) r := by
    rintro X ms1 K1 r ⟨m1, k1, e1, e2⟩
    exact ⟨m1, k1, by rw [show X = some (true, m1) from e1, bd_e rfl], e2⟩
  have wrapB : ∀ (X : Option (Bool × MM)) (r : List Tok), BA G n pg L m X fft r → BA G n pg L m (bd X fun r_2 m_3 => B_X5_readMembers_26 G fu (n + 204) r_2 (nI (i + 1)) m_3) (fun m => B_X5_readMembers_26 G fu (n + 204) false (nI (i + 1)) m) r := by
    rintro X r ⟨m1, k1, e1, e2⟩
    exact ⟨m1, k1, by rw [show X = some (false, m1) from e1, bd_e rfl], e2⟩
  rw [u1] at hm
  by_cases q1 : t.1 = 133
  · rw [if_pos (show nI t.1 = 133 by rw [q1]; rfl), if_pos (by rw [u1]; exact q1)]
    obtain ⟨x1, x2⟩ := cp_abs hN hE h ho hn
    exact ⟨fun ms1 K1 r z => wrap _ _ _ _ (x1 ms1 K1 r z), fun r z => wrapB _ _ (x2 r z)⟩
  rw [if_neg (k_ne 133 133 rfl (by omega) (by omega) q1), if_neg (by rw [u1]; exact q1)]
  by_cases q2 : t.1 = 134
  · rw [if_pos (show nI t.1 = 134 by rw [q2]; rfl), if_pos (by rw [u1]; exact q2)]
    obtain ⟨x1, x2⟩ := cp_def hN hE h ho hn
    exact ⟨fun ms1 K1 r z => wrap _ _ _ _ (x1 ms1 K1 r z), fun r z => wrapB _ _ (x2 r z)⟩
  rw [if_neg (k_ne 134 134 rfl (by omega) (by omega) q2), if_neg (by rw [u1]; exact q2)]
  by_cases q3 : t.1 = 135
  · rw [if_pos (show nI t.1 = 135 by rw [q3]; rfl), if_pos (by rw [u1]; exact q3)]
    obtain ⟨x1, x2⟩ := cp_fld hN hE h ho hn
    exact ⟨fun ms1 K1 r z => wrap _ _ _ _ (x1 ms1 K1 r z), fun r z => wrapB _ _ (x2 r z)⟩
  rw [if_neg (k_ne 135 135 rfl (by omega) (by omega) q3), if_neg (by rw [u1]; exact q3)]
  by_cases q4 : t.1 = 136
  · rw [if_pos (show nI t.1 = 136 by rw [q4]; rfl), if_pos (by rw [u1]; exact q4)]
    obtain ⟨x1, x2⟩ := cp_cst hN hE h ho hn
    exact ⟨fun ms1 K1 r z => wrap _ _ _ _ (x1 ms1 K1 r z), fun r z => wrapB _ _ (x2 r z)⟩
  rw [if_neg (k_ne 136 136 rfl (by omega) (by omega) q4), if_neg (by rw [u1]; exact q4)]
  have q5 : t.1 = 137 := by omega
  rw [if_pos (show nI t.1 = 137 by rw [q5]; rfl)]
  obtain ⟨x1, x2⟩ := cp_mk hN hE h ho hn
  exact ⟨fun ms1 K1 r z => wrap _ _ _ _ (x1 ms1 K1 r z), fun r z => wrapB _ _ (x2 r z)⟩
theorem cp_stop {G : GG} {fu x : Nat} {i : Nat} {m : MM} (hi : i ≤ 2000) : B_X5_readMembers_26 G (fu + 1) x false (nI i) m = some (false, m) := by
  rw [B_X5_readMembers_26, show (2000 : Int32) = nI 2000 from rfl]
  by_cases h : 2000 ≤ i
  · rw [if_pos ((nI_leI (by omega) (by omega)).mpr h)]
  · rw [if_neg (fun z => h ((nI_leI (by omega) (by omega)).mp z)), if_neg ff]
theorem cp_ms {G : GG} {n pg p : Nat} {L : List Tok} {Q : List Enm} {cs : List Con} (hN : PN n pg) (hE : EL L) : ∀ (fu f i k : Nat) (ms : List Mem) (m : MM) (K : List Ko), PS G m n pg L k K (Q ++ [(p, cs, ms)]) → gR m (n + 204) 4 = some (pg + 4 + 12 * Q.length) → i + 1 ≤ k → L.length - k + 1 < fu → L.length - k < f → (∀ ms1 K1 r, pMs Q.length f ms K (L.drop k) = (some (ms1, K1), r) → GD G n pg L k m (B_X5_readMembers_26 G fu (n + 204) true (nI i) m) tt K1 (Q ++ [(p, cs, ms1)]) r) ∧ ∀ r, pMs Q.length f ms K (L.drop k) = (none, r) → BA G n pg L m (B_X5_readMembers_26 G fu (n + 204) true (nI i) m) fft r := by
  intro fu
  induction fu with
  | zero => intro f i k ms m K _ _ _ hf; exact absurd hf (by omega)
  | succ fu ih =>
    intro f i k ms m K h ho hik hf hf2
    cases f with
    | zero => exact absurd hf2 (by omega)
    | succ f =>
      have hl := h.2.2.1.1.2.2.2.1
      have hkl := h.2.2.2.2.2.2.2.2
      rw [pMs]
      by_cases q : 133 ≤ hd (L.drop k) ∧ hd (L.drop k) ≤ 137
      · rw [if_pos q]
        obtain ⟨x1, x2⟩ := cp_mm (fu := fu) (i := i) hN hE h ho (by omega) q
        cases hp : pMm Q.length ms K (L.drop k) with
        | mk o r =>
          cases o with
          | none =>
            refine ⟨fun ms1 K1 r z => by simp at z, fun r' z => ?_⟩
            cases z
            obtain ⟨m1, k1, e1, e2, e3, e4, e5⟩ := x2 r hp
            obtain ⟨fu', rfl⟩ : ∃ fu', fu = fu' + 1 := ⟨fu - 1, by omega⟩
            exact ⟨m1, k1, e1.trans (cp_stop (by omega)), e2, e3, e4, e5⟩
          | some mK =>
            obtain ⟨ms1, K1⟩ := mK
            obtain ⟨m1, k1, e1, e2, e3, e4, e5, e6⟩ := x1 ms1 K1 r hp
            subst e3
            obtain ⟨z1, z2⟩ := ih f (i + 1) k1 ms1 m1 K1 e2 (by show m1.2.2 _ _ = _; rw [e5]; exact ho) (by omega) (by omega) (by omega)
            refine ⟨fun ms2 K2 r' z => ?_, fun r' z => ?_⟩
            · obtain ⟨m2, k2, w1, w2, w3, w4, w5, w6⟩ := z1 ms2 K2 r' z
              exact ⟨m2, k2, e1.trans w1, w2, w3, e4.tr w4, w5.trans e5, by omega⟩
            · obtain ⟨m2, k2, w1, w2, w3, w4, w5⟩ := z2 r' z
              exact ⟨m2, k2, e1.trans w1, w2, w3, e4.tr w4, w5.trans e5⟩
      · rw [if_neg q]
        obtain ⟨t, ht, t3, t4, t5, b1, b2, b3, u1, u2, u3, u4⟩ := h.cur
        rw [u1] at q
        rw [B_X5_readMembers_26, show (2000 : Int32) = nI 2000 from rfl, if_neg (fun z => absurd ((nI_leI (by omega) (by omega)).mp z) (by omega)), if_pos rfl, nb_e h.1.1, t3, if_neg (k_ne 133 133 rfl (by omega) (by omega) (by omega)), if_neg (k_ne 134 134 rfl (by omega) (by omega) (by omega)), if_neg (k_ne 135 135 rfl (by omega) (by omega) (by omega)), if_neg (k_ne 136 136 rfl (by omega) (by omega) (by omega)), if_neg (k_ne 137 137 rfl (by omega) (by omega) (by omega))]
        refine ⟨fun ms1 K1 r z => ?_, fun r z => by simp at z⟩
        cases z
        exact ⟨m, k, rfl, h, rfl, OW.rf, rfl, Nat.le_refl _⟩
theorem cp_mbs {G : GG} {m : MM} {n pg p k : Nat} {L : List Tok} {Q : List Enm} {K : List Ko} {cs : List Con} (hN : PN n pg) (hE : EL L) (h : PS G m n pg L k K (Q ++ [(p, cs, [])])) (ho : gR m (n + 204) 4 = some (pg + 4 + 12 * Q.length)) : (∀ ms1 K1 r, pMbs Q.length K (L.drop k) = (some (ms1, K1), r) → GD G n pg L k m (M_X5_readMembers G (n + 204) m) tt K1 (Q ++ [(p, cs, ms1)]) r) ∧ ∀ r, pMbs Q.length K (L.drop k) = (none, r) → BA G n pg L m (M_X5_readMembers G (n + 204) m) fft r := by
  obtain ⟨t, ht, t3, t4, t5, b1, b2, b3, u1, u2, u3, u4⟩ := h.cur
  have hl := h.2.2.1.1.2.2.2.1
  unfold M_X5_readMembers pMbs
  rw [nb_e h.1.1, t3, u1]
  by_cases q : t.1 = 59
  · obtain ⟨m1, e1, e2, e3, e4⟩ := h.adv hN hE ht (by omega)
    rw [if_pos q, if_pos (show nI t.1 = 59 by rw [q]; rfl), bd_e e1, u4]
    have hkl := e2.2.2.2.2.2.2.2.2
    obtain ⟨x1, x2⟩ := cp_ms hN hE FU 2002 0 (k + 1) [] m1 K e2 (by show m1.2.2 _ _ = _; rw [e4]; exact ho) (by omega) (by unfold FU; omega) (by omega)
    rw [nI_0] at x1 x2
    refine ⟨fun ms1 K1 r z => ?_, fun r z => ?_⟩
    · obtain ⟨m2, k2, w1, w2, w3, w4, w5, w6⟩ := x1 ms1 K1 r z
      exact ⟨m2, k2, w1, w2, w3, (e3.ow (by simp)).tr w4, w5.trans e4, by omega⟩
    · obtain ⟨m2, k2, w1, w2, w3, w4, w5⟩ := x2 r z
      exact ⟨m2, k2, w1, w2, w3, (e3.ow (by simp)).tr w4, w5.trans e4⟩
  · rw [if_neg q, if_neg (k_ne 59 59 rfl (by omega) (by omega) q)]
    refine ⟨fun ms1 K1 r z => ?_, fun r z => by simp at z⟩
    cases z
    exact ⟨m, k, rfl, h, rfl, OW.rf, rfl, Nat.le_refl _⟩
def RX (m m1 : MM) (n : Nat) : Prop := ∀ a j, ¬ (a = n + 204 ∧ j = 4) → gR m1 a j = gR m a j
theorem RX.rf {m : MM} {n : Nat} : RX m m n := fun _ _ _ => rfl
theorem RX.tr {m m1 m2 : MM} {n : Nat} (h : RX m m1 n) (h2 : RX m1 m2 n) : RX m m2 n := fun a j z => (h2 a j z).trans (h a j z)
theorem RX.eq {m m1 : MM} {n : Nat} (h : m1.2.2 = m.2.2) : RX m m1 n := fun a j _ => by show m1.2.2 a j = m.2.2 a j; rw [h]
theorem PC.rx {G : GG} {m m1 : MM} {n pg : Nat} (h : PC G m n pg) (e : RX m m1 n) (hN : PN n pg) : PC G m1 n pg := by
  unfold PN at hN
  obtain ⟨h1, h2, h3, h4, x0, x1, x2, x3, x4⟩ := h
  exact ⟨by rw [e _ _ (by omega)]; exact h1, by rw [e _ _ (by omega)]; exact h2, by rw [e _ _ (by omega)]; exact h3, by rw [e _ _ (by omega)]; exact h4, by rw [e _ _ (by omega)]; exact x0, x1, by rw [e _ _ (by omega)]; exact x2, by rw [e _ _ (by omega)]; exact x3, by rw [e _ _ (by omega)]; exact x4⟩
theorem LPg.rx {G : GG} {m m1 : MM} {n pg : Nat} (h : LPg G m pg) (e : RX m m1 n) (hN : PN n pg) : LPg G m1 pg := by
  unfold PN at hN
  exact ⟨by rw [e _ _ (by omega)]; exact h.1, by rw [e _ _ (by omega)]; exact h.2.1, h.2.2.1, h.2.2.2.1, fun i hi => ⟨by rw [e _ _ (by omega)]; exact (h.2.2.2.2 i hi).1, fun j hj => ⟨by rw [e _ _ (by omega)]; exact ((h.2.2.2.2 i hi).2 j hj).1, ((h.2.2.2.2 i hi).2 j hj).2⟩⟩⟩
theorem ec_new {m : MM} {en : Nat} : EC (sI (sI (sI (sI (sI (sI (sI (sI m en 11 0) en 12 0) en 13 0) en 14 0) en 15 0) en 16 (-1)) en 17 0) en 18 0) en [] [] := by
  refine ⟨?_, ?_, ?_, ?_, ?_, ?_, ?_, ?_, fun c q hq => by simp at hq, fun i q hq => by simp [mbs] at hq, fun i q hq => by simp [fls] at hq, fun i q hq => by simp [nmL, nmM] at hq⟩ <;> simp [gI_sI] <;> rfl
theorem cp_open {G : GG} {m : MM} {n pg k : Nat} {L : List Tok} {K : List Ko} {P : List Enm} (hN : PN n pg) (hE : EL L) (h : PS G m n pg L k K P) : (hd (L.drop k) = 128 ∧ P.length < 8 → ∃ m1, M_X5_openEnum G (n + 204) m = some (true, m1) ∧ PS G m1 n pg L (k + 1) (K ++ [enK P.length]) (P ++ [(plc (L.drop k), [], [])]) ∧ gR m1 (n + 204) 4 = some (pg + 4 + 12 * P.length) ∧ OW m m1 n pg ∧ RX m m1 n) ∧ (¬ (hd (L.drop k) = 128 ∧ P.length < 8) → M_X5_openEnum G (n + 204) m = some (false, m)) := by
  obtain ⟨t, ht, t3, t4, t5, b1, b2, b3, u1, u2, u3, u4⟩ := h.cur
  have hN2 := hN
  unfold PN at hN2
  have hPl := h.2.2.2.2.2.1.1
  have hLl := h.2.2.1.1.2.2.2.1
  have hkb := h.2.2.2.2.2.2.2.1
  rw [u1]
  unfold M_X5_openEnum
  rw [nb_e h.1.1, t3, nb_e h.1.2.2.1, h.2.2.2.2.1.1, show (8 : Int32) = nI 8 from rfl]
  refine ⟨fun hq => ?_, fun hq => ?_⟩
  · obtain ⟨q1, q2⟩ := hq
    have hkk := hE k t ht (by omega)
    rw [if_pos (show nI t.1 = 128 by rw [q1]; rfl), if_pos ((nI_ltI (by omega) (by omega)).mpr q2)]
    obtain ⟨m1, e1, e2, e3, e4, e5, e6, e7, e8, e9, e10⟩ := h.mark hN (op := 12) (a := P.length) (q := enK P.length) (by omega) (by omega) (by omega) rfl rfl
    obtain ⟨c4, -⟩ : gI m1 (n + 205) 4 = nI t.2.1 ∧ True := ⟨(tk_cur e4 ht).2.1, trivial⟩
    rw [show (12 : Int32) = nI 12 from rfl, bd_e e1, nb_e e2.2.2.1, nb_e e2.1, c4]
    obtain ⟨v1, v2, v3, v4, v5⟩ := e3
    obtain ⟨w1, w2⟩ := v5 P.length q2
    unfold M_X6_addEnum M_X1_begin
    rw [nb_e v1, v3, e6.1, if_neg (fun z => absurd ((nI_leI (by omega) (by omega)).mp z) (by omega)), nb_e v2, v4, if_pos ((nI_ltI (by omega) (by omega)).mpr q2), ib_n q2 (by omega), nI_clamp (by omega)]
    simp only [gR_sI]
    rw [nb_e v1, v3, gI_sI_ne (Or.inl (by omega)), e6.1, ib_n q2 (by omega), nI_clamp (by omega), nb_e w1, bd_e rfl]
    simp only [gR_sI]
    obtain ⟨en, een⟩ : ∃ en, en = pg + 4 + 12 * P.length := ⟨_, rfl⟩
    rw [← een] at w1 w2 ⊢
    have hpe : pg ≠ en := by omega
    have g3 : ∀ (mz : MM) (v : Int32) (j : Nat), gI (sI mz en j v) pg 3 = gI mz pg 3 := fun mz v j => gI_sI_ne (Or.inl hpe)
    have g3b : gI (sI m1 (pg + 2) P.length (nI t.2.1)) pg 3 = nI P.length := by rw [gI_sI_ne (Or.inl (by omega))]; exact e6.1
    simp only [g3, g3b, nI_1]
    rw [nb_e v1, v3, gI_sI_eq, nI_pred, ib_n q2 (by omega), nI_clamp (by omega), w1, bd_e rfl]
    obtain ⟨mb, emb⟩ : ∃ mb, sI (sI (sI (sI (sI (sI (sI (sI (sI m1 (pg + 2) P.length (nI t.2.1)) en 11 0) en 12 0) en 13 0) en 14 0) en 15 0) en 16 (-1)) en 17 0) en 18 0 = mb := ⟨_, rfl⟩
    rw [emb]
    have ecn : EC mb en [] [] := by rw [← emb]; exact ec_new
    have ob : Off m1 mb [pg + 2, en] := by
      rw [← emb]
      exact ((((((((Off.sI.tr Off.sI).tr Off.sI).tr Off.sI).tr Off.sI).tr Off.sI).tr Off.sI).tr Off.sI).tr Off.sI).mono (by simp)
    have rb : mb.2.2 = m1.2.2 := by rw [← emb]; rfl
    have n2 : ∀ j, gI mb (pg + 2) j = if j = P.length then nI t.2.1 else gI m1 (pg + 2) j := fun j => by
      rw [← emb]
      have : pg + 2 ≠ en := by omega
      simp [gI_sI, this]
    obtain ⟨mc, emc⟩ : ∃ mc, sI mb pg 3 (nI (P.length + 1)) = mc := ⟨_, rfl⟩
    rw [emc]
    have oc : Off mb mc [pg] := by rw [← emc]; exact Off.sI
    have rc : mc.2.2 = m1.2.2 := by rw [← emc]; exact rb
    obtain ⟨md, emd⟩ : ∃ md, sR mc (n + 204) 4 (some en) = md := ⟨_, rfl⟩
    rw [emd]
    have od : Off mc md [n + 204] := by rw [← emd]; exact Off.sR
    have rd : RX mc md n := fun a j z => by rw [← emd, gR_sR, if_neg z]
    have ho4 : gR md (n + 204) 4 = some en := by rw [← emd, gR_sR, if_pos ⟨rfl, rfl⟩]
    have rx : RX m md n := ((RX.eq e10).tr (RX.eq rc)).tr rd
    have o1 : Off m1 md [pg + 2, en, pg, n + 204] := ((ob.tr oc).tr od).mono (by simp)
    rw [el_e ho4, nb_e (h.1.rx rx hN).1]
    have Td : TK G md (n + 205) L k := e4.kept o1 (by simp; omega) (by simp; omega)
    obtain ⟨mf, f1, f2, f3, f4⟩ := tk_advance Td hkk
    rw [bd_e f1, if_pos rfl]
    have rxf : RX m mf n := rx.tr (RX.eq f4)
    have of : Off m1 mf [pg + 2, en, pg, n + 204, n + 205] := (o1.tr f3).mono (by simp)
    refine ⟨mf, rfl, ⟨h.1.rx rxf hN, h.2.1.rx rxf hN, f2, ?_, ⟨?_, fun e E hEe => ?_⟩, ⟨by rw [List.length_append]; exact q2, fun E hEm => ?_⟩, ?_, by rw [List.length_append]; simp; omega, hkk⟩, by show mf.2.2 _ _ = _; rw [f4]; exact ho4, (e9.ow (by simp)).tr (of.ow (by simp; omega)), rxf⟩
    · obtain ⟨a1, a2, a3, a4, a5⟩ := e5
      have hp4 : gI mf pg 4 = gI m1 pg 4 := by
        rw [f3.I (by simp; omega), od.I (by simp; omega), ← emc, gI_sI_ne (Or.inr (by decide)), ob.I (by simp; omega)]
      exact ⟨by rw [rxf _ _ (by omega)]; exact h.2.2.2.1.1, a2, by rw [hp4]; exact a3, a4, fun j v hj => by rw [of.L (by simp; omega)]; exact a5 j v hj⟩
    · rw [f3.I (by simp; omega), od.I (by simp; omega), ← emc, gI_sI_eq, List.length_append]
      rfl
    · rcases ap_get hEe with ⟨a, b⟩ | ⟨a, b⟩
      · obtain ⟨c1, c2⟩ := e6.2 e E b
        exact ⟨by rw [f3.I (by simp; omega), od.I (by simp; omega), oc.I (by simp), n2, if_neg (by omega)]; exact c1, c2.kept (fun a a1 a2 => (of a (by simp; omega)).1)⟩
      · subst a
        subst b
        refine ⟨by rw [f3.I (by simp; omega), od.I (by simp; omega), oc.I (by simp), n2, if_pos rfl, u2], ?_⟩
        rw [← een]
        have o9 : Off mb mf [pg, n + 204, n + 205] := ((oc.tr od).tr f3).mono (by simp)
        exact ecn.kept (fun a a1 a2 => (o9 a (by simp; omega)).1)
    · rw [List.mem_append, List.mem_singleton] at hEm
      rcases hEm with z | z
      · exact e7.2 E z
      · subst z
        exact ⟨by show plc _ < 4096; rw [u2]; exact b2, by simp, by simp [mbs], by simp [fls], fun q hq => by simp at hq, fun q hq => by simp at hq⟩
    · obtain ⟨N, a, b⟩ := e8.kept of (by simp; omega)
      refine ⟨N, a, fun q => ?_⟩
      rw [b q]
      simp only [List.mem_append, List.mem_singleton, or_and_right, exists_or, exists_eq_left]
      simp [mkD, mks]
  · by_cases q1 : t.1 = 128
    · rw [if_pos (show nI t.1 = 128 by rw [q1]; rfl), if_neg (fun z => hq ⟨q1, (nI_ltI (by omega) (by omega)).mp z⟩)]
    · rw [if_neg (k_ne 128 128 rfl (by omega) (by omega) q1)]
/-- a text that is none: the fault and its place -/
def TF (G : GG) (n pg : Nat) (m : MM) (X : Option (Bool × MM)) (r : List Tok) : Prop := ∃ m1, X = some (false, m1) ∧ gI m1 (n + 203) 0 = nI 1 ∧ gI m1 (n + 203) 1 = nI (plc r) ∧ OW m m1 n pg ∧ RX m m1 n
theorem cp_bad {G : GG} {m : MM} {n pg k i : Nat} {L : List Tok} {fu : Nat} (h : PW G m n L k) (hi : i < 100) : TF G n pg m (B_X5_readText_39 G (fu + 1) (n + 204) 0 (nI i) m) (L.drop k) := by
  obtain ⟨h1, h2, h3⟩ := h
  obtain ⟨c, hc, -⟩ := h3.2.2.2
  obtain ⟨c3, c4, c5, -⟩ := tk_cur h3 hc
  have e : B_X5_readText_39 G (fu + 1) (n + 204) 0 (nI i) m = some (false, sI (sI m (n + 203) 0 1) (n + 203) 1 (nI c.2.1)) := by
    rw [B_X5_readText_39, show (8 : Int32) = nI 8 from rfl]
    unfold M_X3_noteText
    by_cases h8 : 8 < i
    · rw [if_pos ((nI_ltI (by omega) (by omega)).mpr h8), nb_e h2, nb_e h1, c4, bd_e rfl]
    · rw [if_neg (fun z => h8 ((nI_ltI (by omega) (by omega)).mp z)), if_pos rfl, nb_e h2, nb_e h1, c4, bd_e rfl]
  refine ⟨_, e, ?_, ?_, (Off.sI.tr Off.sI).ow (by simp), RX.eq rfl⟩
  · rw [gI_sI_ne (Or.inr (by decide)), gI_sI_eq]
    rfl
  · rw [gI_sI_eq, (hd_drop hc).2.1]
theorem TF.tr {G : GG} {n pg : Nat} {m m1 : MM} {X : Option (Bool × MM)} {r : List Tok} (o : OW m m1 n pg) (x : RX m m1 n) (h : TF G n pg m1 X r) : TF G n pg m X r := by
  obtain ⟨m2, h1, h2, h3, h4, h5⟩ := h
  exact ⟨m2, h1, h2, h3, o.tr h4, x.tr h5⟩
def TG (G : GG) (n pg : Nat) (L : List Tok) (m : MM) (X : Option (Bool × MM)) (P : List Enm) (K : List Ko) : Prop := ∃ m1 k1, X = some (true, m1) ∧ PS G m1 n pg L k1 K P ∧ OW m m1 n pg ∧ RX m m1 n
theorem TG.tr {G : GG} {n pg : Nat} {L : List Tok} {m m1 : MM} {X : Option (Bool × MM)} {P : List Enm} {K : List Ko} (o : OW m m1 n pg) (x : RX m m1 n) (h : TG G n pg L m1 X P K) : TG G n pg L m X P K := by
  obtain ⟨m2, k2, h1, h2, h4, h5⟩ := h
  exact ⟨m2, k2, h1, h2, o.tr h4, x.tr h5⟩
theorem cp_text {G : GG} {n pg : Nat} {L : List Tok} (hN : PN n pg) (hE : EL L) : ∀ (fu f k : Nat) (P : List Enm) (m : MM) (K : List Ko), PS G m n pg L k K P → 9 - P.length < fu → 8 - P.length < f → (∀ P1 K1 r, pTx f P K (L.drop k) = (some (P1, K1), r) → TG G n pg L m (B_X5_readText_39 G (fu + 1) (n + 204) 1 (nI P.length) m) P1 K1) ∧ ∀ r, pTx f P K (L.drop k) = (none, r) → TF G n pg m (B_X5_readText_39 G (fu + 1) (n + 204) 1 (nI P.length) m) r := by
  intro fu
  induction fu with
  | zero => intro f k P m K _ hf; exact absurd hf (by omega)
  | succ fu ih =>
    intro f k P m K h hf hf2
    cases f with
    | zero => exact absurd hf2 (by omega)
    | succ f =>
      obtain ⟨t, ht, t3, t4, t5, b1, b2, b3, u1, u2, u3, u4⟩ := h.cur
      have hPl := h.2.2.2.2.2.1.1
      rw [B_X5_readText_39, show (8 : Int32) = nI 8 from rfl, if_neg (fun z => absurd ((nI_ltI (by omega) (by omega)).mp z) (by omega)), if_neg (show ¬ (1 : Int32) = 0 by decide), nb_e h.1.1, t3, pTx, u1]
      by_cases q : t.1 = 130
      · rw [if_pos q, if_pos (show nI t.1 = 130 by rw [q]; rfl)]
        refine ⟨fun P1 K1 r z => ?_, fun r z => by simp at z⟩
        cases z
        exact ⟨m, k, rfl, h, OW.rf, RX.rf⟩
      rw [if_neg q, if_neg (k_ne 130 130 rfl (by omega) (by omega) q), show (132 : Int32) = nI 132 from rfl, nI_1]
      obtain ⟨s1, s2⟩ := h.take hN hE (w := 132) (by omega) (by omega)
      rw [u1] at s1 s2
      by_cases q2 : ¬ t.1 = 132
      · rw [bd_e (s2 q2), if_neg ff, if_neg q2]
        refine ⟨fun P1 K1 r z => by simp at z, fun r z => ?_⟩
        cases z
        exact cp_bad h.w (by omega)
      have q2 : t.1 = 132 := Decidable.not_not.mp q2
      obtain ⟨m1, e1, e2, e3, e4, e5⟩ := s1 q2
      rw [bd_e e1, if_pos rfl, if_pos q2, e5]
      have o1 : OW m m1 n pg := e3.ow (by simp)
      have x1 : RX m m1 n := RX.eq e4
      obtain ⟨v1, v2⟩ := cp_open hN hE e2
      unfold pEn
      by_cases q3 : ¬ (hd (L.drop (k + 1)) = 128 ∧ P.length < 8)
      · rw [bd_e (v2 q3), if_neg ff, if_neg q3]
        refine ⟨fun P1 K1 r z => by simp at z, fun r z => ?_⟩
        cases z
        exact (cp_bad e2.w (by omega)).tr o1 x1
      have q3 := Decidable.not_not.mp q3
      obtain ⟨m2, f1, f2, f3, f4, f5⟩ := v1 q3
      have o2 := o1.tr f4
      have x2 := x1.tr f5
      obtain ⟨t', ht', -, -, -, -, -, -, -, -, -, u4'⟩ := e2.cur
      rw [bd_e f1, if_pos rfl, if_pos q3, u4', nb_e f2.1.1, show (123 : Int32) = nI 123 from rfl]
      obtain ⟨w1, w2⟩ := f2.take hN hE (w := 123) (by omega) (by omega)
      by_cases q4 : ¬ hd (L.drop (k + 1 + 1)) = 123
      · rw [bd_e (w2 q4), if_neg ff, if_neg q4]
        refine ⟨fun P1 K1 r z => by simp at z, fun r z => ?_⟩
        cases z
        exact (cp_bad f2.w (by omega)).tr o2 x2
      have q4 := Decidable.not_not.mp q4
      obtain ⟨m3, g1, g2, g3, g4, g5⟩ := w1 q4
      rw [bd_e g1, if_pos rfl, if_pos q4, g5]
      have o3 := o2.tr (g3.ow (by simp))
      have x3 := x2.tr (RX.eq g4)
      have ho3 : gR m3 (n + 204) 4 = some (pg + 4 + 12 * P.length) := by show m3.2.2 _ _ = _; rw [g4]; exact f3
      obtain ⟨y1, y2⟩ := cp_constants hN hE g2 ho3
      cases hp : pCns P.length (K ++ [enK P.length]) (L.drop (k + 1 + 1 + 1)) with
      | mk oc rc =>
        cases oc with
        | none =>
          obtain ⟨m4, k4, a1, a2, a3, a4, a5⟩ := y2 rc hp
          rw [show M_X5_readConstants G (n + 204) m3 = some (false, m4) from a1, bd_e rfl, if_neg ff]
          refine ⟨fun P1 K1 r z => by simp at z, fun r z => ?_⟩
          cases z
          rw [a3]
          exact (cp_bad a2 (by omega)).tr (o3.tr a4) (x3.tr (RX.eq a5))
        | some cK =>
          obtain ⟨cs, K1⟩ := cK
          obtain ⟨m4, k4, a1, a2, a3, a4, a5, a6⟩ := y1 cs K1 rc hp
          subst a3
          rw [show M_X5_readConstants G (n + 204) m3 = some (true, m4) from a1, bd_e rfl, if_pos rfl]
          dsimp only
          have o4 := o3.tr a4
          have x4 := x3.tr (RX.eq a5)
          have ho4 : gR m4 (n + 204) 4 = some (pg + 4 + 12 * P.length) := by show m4.2.2 _ _ = _; rw [a5]; exact ho3
          obtain ⟨z1, z2⟩ := cp_mbs hN hE a2 ho4
          cases hpm : pMbs P.length K1 (L.drop k4) with
          | mk om rm =>
            cases om with
            | none =>
              obtain ⟨m5, k5, c1, c2, c3, c4, c5⟩ := z2 rm hpm
              rw [show M_X5_readMembers G (n + 204) m4 = some (false, m5) from c1, bd_e rfl, if_neg ff]
              refine ⟨fun P1 K1 r z => by simp at z, fun r z => ?_⟩
              cases z
              rw [c3]
              exact (cp_bad c2 (by omega)).tr (o4.tr c4) (x4.tr (RX.eq c5))
            | some mK =>
              obtain ⟨ms, K2⟩ := mK
              obtain ⟨m5, k5, c1, c2, c3, c4, c5, c6⟩ := z1 ms K2 rm hpm
              subst c3
              rw [show M_X5_readMembers G (n + 204) m4 = some (true, m5) from c1, bd_e rfl, if_pos rfl]
              dsimp only
              have o5 := o4.tr c4
              have x5 := x4.tr (RX.eq c5)
              rw [nb_e c2.1.1, show (125 : Int32) = nI 125 from rfl]
              obtain ⟨i1, i2⟩ := c2.take hN hE (w := 125) (by omega) (by omega)
              by_cases q6 : ¬ hd (L.drop k5) = 125
              · rw [bd_e (i2 q6), if_neg ff, if_neg q6]
                refine ⟨fun P1 K1 r z => by simp at z, fun r z => ?_⟩
                cases z
                exact (cp_bad c2.w (by omega)).tr o5 x5
              have q6 := Decidable.not_not.mp q6
              obtain ⟨m6, j1, j2, j3, j4, j5⟩ := i1 q6
              rw [bd_e j1, if_pos rfl, if_pos q6, j5]
              dsimp only
              have hl1 : (P ++ [(plc (L.drop (k + 1)), cs, ms)]).length = P.length + 1 := by simp
              obtain ⟨zz1, zz2⟩ := ih f (k5 + 1) _ m6 K2 j2 (by omega) (by omega)
              rw [hl1] at zz1 zz2
              exact ⟨fun P1 K3 r z => (zz1 P1 K3 r z).tr (o5.tr (j3.ow (by simp))) (x5.tr (RX.eq j4)), fun r z => (zz2 r z).tr (o5.tr (j3.ow (by simp))) (x5.tr (RX.eq j4))⟩
