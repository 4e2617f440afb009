/-! ===== L2: load, in the reference ===== -/
/-- what stands in the other half stays -/
theorem RQ.half {G : GG} {m m1 : MM} {d tt : Nat} {B : Nat → Int32} {K : List Ko} {P : List Enm} (h : RQ G m d tt B K P) (hP : PB P) (hg : (gvi 0 K).length ≤ 500) (hK : (aK K).length ≤ 2000) (hL : LM G m1 d) (o3 : gI m1 d 3 = gI m d 3) (o : ∀ p, 3 ≤ p → p ≤ 40 → ∀ j, hsz p * tt ≤ j → j < hsz p * tt + hsz p → gI m1 (d + p) j = gI m (d + p) j) : RQ G m1 d tt B K P := by
  obtain ⟨h1, h2, h3, h4, h5, h6, h7⟩ := h
  have oe : ∀ p e, (4 ≤ p ∧ p ≤ 10) ∨ p = 38 → e < 8 → gI m1 (d + p) (8 * tt + e) = gI m (d + p) (8 * tt + e) := fun p e hp he => o p (by omega) (by omega) _ (by rw [hz_e hp]; omega) (by rw [hz_e hp]; omega)
  have oc : ∀ p e c, 11 ≤ p → p ≤ 14 → e < 8 → c < 12 → gI m1 (d + p) (12 * (8 * tt + e) + c) = gI m (d + p) (12 * (8 * tt + e) + c) := fun p e c hp hp2 he hc => o p (by omega) (by omega) _ (by rw [hz_c ⟨hp, hp2⟩]; omega) (by rw [hz_c ⟨hp, hp2⟩]; omega)
  have om : ∀ p e c, 15 ≤ p → p ≤ 18 → e < 8 → c < 8 → gI m1 (d + p) (8 * (8 * tt + e) + c) = gI m (d + p) (8 * (8 * tt + e) + c) := fun p e c hp hp2 he hc => o p (by omega) (by omega) _ (by rw [hz_m ⟨hp, hp2⟩]; omega) (by rw [hz_m ⟨hp, hp2⟩]; omega)
  have of : ∀ p e c, 19 ≤ p → p ≤ 23 → e < 8 → c < 6 → gI m1 (d + p) (6 * (8 * tt + e) + c) = gI m (d + p) (6 * (8 * tt + e) + c) := fun p e c hp hp2 he hc => o p (by omega) (by omega) _ (by rw [hz_f ⟨hp, hp2⟩]; omega) (by rw [hz_f ⟨hp, hp2⟩]; omega)
  have o1 : ∀ p, p = 3 ∨ p = 24 ∨ p = 30 → gI m1 (d + p) tt = gI m (d + p) tt := fun p hp => by
    have e : hsz p = 1 := by rcases hp with w | w | w <;> rw [w] <;> rfl
    exact o p (by omega) (by omega) _ (by rw [e]; omega) (by rw [e]; omega)
  have og : ∀ p g, 25 ≤ p → p ≤ 29 → g < 520 → gI m1 (d + p) (520 * tt + g) = gI m (d + p) (520 * tt + g) := fun p g hp hp2 hgl => by
    have e : hsz p = 520 := by rcases (show p = 25 ∨ p = 26 ∨ p = 27 ∨ p = 28 ∨ p = 29 by omega) with w | w | w | w | w <;> rw [w] <;> rfl
    exact o p (by omega) (by omega) _ (by rw [e]; omega) (by rw [e]; omega)
  have oa : ∀ p j, 31 ≤ p → p ≤ 40 → p ≠ 38 → j < 2100 → gI m1 (d + p) (2100 * tt + j) = gI m (d + p) (2100 * tt + j) := fun p j hp hp2 hp3 hj => o p (by omega) (by omega) _ (by rw [hz2100 p hp hp2 hp3]; omega) (by rw [hz2100 p hp hp2 hp3]; omega)
  refine ⟨hL, o3.trans h2, h3, ⟨(o1 3 (by omega)).trans h4.1, fun e E hE => ?_⟩, ⟨(o1 24 (by omega)).trans h5.1, fun g x hx => ?_⟩, ⟨(o1 30 (by omega)).trans h6.1, fun j q hq => ?_⟩, fun j q hq => ?_⟩
  · obtain ⟨b1, b2, b3, b4, b5, b6, b7⟩ := pb_en hP hE
    obtain ⟨q1, q2, ⟨q3, q3'⟩, ⟨q4, q4'⟩, ⟨q5, q5'⟩, q6⟩ := h4.2 e E hE
    refine ⟨by rw [oe 4 e (by omega) b1]; exact q1, by rw [oe 5 e (by omega) b1]; exact q2, ⟨by rw [oe 6 e (by omega) b1]; exact q3, fun c q hq => ?_⟩, ⟨by rw [oe 7 e (by omega) b1]; exact q4, fun i q hq => ?_⟩, ⟨by rw [oe 8 e (by omega) b1]; exact q5, fun i q hq => ?_⟩, ?_⟩
    · have hc : c < 12 := by have := get_lt hq; omega
      rw [oc 11 e c (by omega) (by omega) b1 hc, oc 12 e c (by omega) (by omega) b1 hc, oc 13 e c (by omega) (by omega) b1 hc, oc 14 e c (by omega) (by omega) b1 hc]
      exact q3' c q hq
    · have hc : i < 8 := by have := get_lt hq; omega
      rw [om 15 e i (by omega) (by omega) b1 hc, om 16 e i (by omega) (by omega) b1 hc, om 17 e i (by omega) (by omega) b1 hc, om 18 e i (by omega) (by omega) b1 hc]
      exact q4' i q hq
    · have hc : i < 6 := by have := get_lt hq; omega
      rw [of 19 e i (by omega) (by omega) b1 hc, of 20 e i (by omega) (by omega) b1 hc, of 21 e i (by omega) (by omega) b1 hc, of 22 e i (by omega) (by omega) b1 hc, of 23 e i (by omega) (by omega) b1 hc]
      exact q5' i q hq
    · unfold QK at q6 ⊢
      rw [oe 9 e (by omega) b1, oe 10 e (by omega) b1, oe 38 e (by omega) b1]
      exact q6
  · have hgl : g < 520 := by have := get_lt hx; omega
    obtain ⟨c1, c2, c3, s, c4, c5, c6⟩ := h5.2 g x hx
    exact ⟨by rw [og 25 g (by omega) (by omega) hgl]; exact c1, by rw [og 26 g (by omega) (by omega) hgl]; exact c2, by rw [og 27 g (by omega) (by omega) hgl]; exact c3, s, c4, by rw [og 28 g (by omega) (by omega) hgl]; exact c5, by rw [og 29 g (by omega) (by omega) hgl]; exact c6⟩
  · have hj : j < 2100 := by have := get_lt hq; omega
    exact (h6.2 j q hq).kept (fun i i1 i2 i3 => oa i j i1 i2 i3 hj)
  · have hj : j < 2100 := by have := get_lt hq; omega
    obtain ⟨a1, a2⟩ := h7 j q hq
    unfold AB
    rw [oa 32 j (by omega) (by omega) (by omega) hj, oa 33 j (by omega) (by omega) (by omega) hj]
    exact ⟨a1, a2⟩
/-- the tape becomes the text -/
theorem ld_copy {G : GG} {d tt lenT : Nat} {BT : Nat → Int32} (ht : tt ≤ 1) (hlT : lenT ≤ 2000) : ∀ (fu k : Nat) (m : MM), LM G m d → gI m d 1 = nI lenT → gI m d 4 = nI tt → (∀ i, i < lenT → gI m (d + 1) i = BT i) → (∀ i, i < k → gI m (d + 2) (2000 * tt + i) = BT i) → lenT - k < fu → k ≤ lenT → ∃ m1, B_X11_load_20 G fu d (nI k) m = (bd (M_X11_readText G d (sI (sI m1 d 1 0) d 53 0)) fun _ m_4 => bd (M_X11_isGood G d m_4) fun r_5 m_6 => if r_5 = true then bd (M_X11_lookAtAll G d m_6) fun _ m_8 => B_X11_load_80 G d m_8 else B_X11_load_80 G d m_6) ∧ OM m m1 d [] [2] ∧ (∀ i, i < lenT → gI m1 (d + 2) (2000 * tt + i) = BT i) ∧ ∀ j, j < 2000 * tt ∨ 2000 * tt + 2000 ≤ j → gI m1 (d + 2) j = gI m (d + 2) j := by
  intro fu
  induction fu with
  | zero => intro k m _ _ _ _ _ h; omega
  | succ fu ih =>
    intro k m hL h1 h4 hT hX hf hk
    rw [B_X11_load_20, h1]
    by_cases w : lenT ≤ k
    · rw [if_pos ((nI_leI (by omega) (by omega)).mpr w)]
      exact ⟨m, rfl, OM.rf, fun i hi => hX i (by omega), fun _ _ => rfl⟩
    · rw [if_neg (fun z => w ((nI_leI (by omega) (by omega)).mp z)), nb_e (mr_2 hL), nb_e (mr_0 hL), mz_0 hL, ib_n (by omega) (by omega), h4, show (2000 : Int32) = nI 2000 from rfl, pk_mul, nI_add, mz_2 hL, ib_n (by omega) (by omega), nI_clamp (n := 2000 * tt + k) (by omega), nI_clamp (n := k) (by omega), hT k (by omega), nI_1]
      have o : OM m (sI m (d + 2) (2000 * tt + k) (BT k)) d [] [2] := OM.a (by omega)
      obtain ⟨m1, e1, e2, e3, e4⟩ := ih (k + 1) (sI m (d + 2) (2000 * tt + k) (BT k)) (hL.kept o) (by rw [gI_sI_ne (Or.inl (by omega))]; exact h1) (by rw [gI_sI_ne (Or.inl (by omega))]; exact h4) (fun i hi => by rw [gI_sI_ne (Or.inl (by omega))]; exact hT i hi) (fun i hi => by
        by_cases z : i = k
        · rw [z, gI_sI_eq]
        · rw [gI_sI_ne (Or.inr (by omega))]; exact hX i (by omega)) (by omega) (by omega)
      exact ⟨m1, e1, o.tr1 e2, e3, fun j hj => (e4 j hj).trans (gI_sI_ne (Or.inr (by omega)))⟩
/-- all states are told anew -/
theorem ld_st {G : GG} {d : Nat} : ∀ (fu k : Nat) (m : MM), LM G m d → (∀ i, i < k → gI m (d + 42) i = 0) → 8 - k < fu → k ≤ 8 → ∃ m1, B_X11_load_141 G fu d (nI k) m = (nb (gR (sI (sI m1 d 61 0) d 71 0) d 6) fun b_1 => ib (gI (sI (sI m1 d 61 0) d 71 0) d 3) (G.2.2 b_1) <| some (gI (sI (sI m1 d 61 0) d 71 0) b_1 ((gI (sI (sI m1 d 61 0) d 71 0) d 3).toNatClampNeg), sI (sI m1 d 61 0) d 71 0)) ∧ OM m m1 d [] [42] ∧ ∀ i, i < 8 → gI m1 (d + 42) i = 0 := by
  intro fu
  induction fu with
  | zero => intro k m _ _ h; omega
  | succ fu ih =>
    intro k m hL hz hf hk
    rw [B_X11_load_141, show (8 : Int32) = nI 8 from rfl]
    by_cases w : 8 ≤ k
    · rw [if_pos ((nI_leI (by omega) (by omega)).mpr w)]
      exact ⟨m, rfl, OM.rf, fun i hi => hz i (by omega)⟩
    · rw [if_neg (fun z => w ((nI_leI (by omega) (by omega)).mp z)), nb_e (mr_56 hL), mz_56 hL, ib_n (by omega) (by omega), nI_clamp (by omega), nI_1]
      have o : OM m (sI m (d + 42) k 0) d [] [42] := OM.a (by omega)
      obtain ⟨m1, e1, e2, e3⟩ := ih (k + 1) (sI m (d + 42) k 0) (hL.kept o) (fun i hi => by
        by_cases z : i = k
        · rw [z, gI_sI_eq]
        · rw [gI_sI_ne (Or.inr z)]; exact hz i (by omega)) (by omega) (by omega)
      exact ⟨m1, e1, o.tr1 e2, e3⟩
