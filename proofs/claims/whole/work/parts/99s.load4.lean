/-! ===== L2: load, in the reference: the whole ===== -/
def LD (m m1 : MM) (d tt : Nat) : Prop := m1.2 = m.2 ∧ (∀ a, a < d → m1.1 a = m.1 a) ∧ (∀ k, k ≠ 1 → k ≠ 4 → k ≠ 5 → k < 41 ∨ 53 < k → gI m1 d k = gI m d k) ∧ (∀ p, 42 ≤ p → m1.1 (d + p) = m.1 (d + p)) ∧ (∀ p, 3 ≤ p → p ≤ 40 → ∀ j, j < hsz p * tt ∨ hsz p * tt + hsz p ≤ j → gI m1 (d + p) j = gI m (d + p) j) ∧ ∀ j, j < 2000 * tt ∨ 2000 * tt + 2000 ≤ j → gI m1 (d + 2) j = gI m (d + 2) j
theorem LD.tr {m m1 m2 : MM} {d tt : Nat} (h : LD m m1 d tt) (h2 : LD m1 m2 d tt) : LD m m2 d tt := ⟨h2.1.trans h.1, fun a x => (h2.2.1 a x).trans (h.2.1 a x), fun k x y z w => (h2.2.2.1 k x y z w).trans (h.2.2.1 k x y z w), fun p x => (h2.2.2.2.1 p x).trans (h.2.2.2.1 p x), fun p x y j z => (h2.2.2.2.2.1 p x y j z).trans (h.2.2.2.2.1 p x y j z), fun j x => (h2.2.2.2.2.2 j x).trans (h.2.2.2.2.2 j x)⟩
theorem OH.ld {m m1 : MM} {d tt : Nat} (h : OH m m1 d tt) : LD m m1 d tt := ⟨Prod.ext h.1 h.2.1, fun a ha => h.2.2.1 a (by omega), fun k _ _ _ hk => h.2.2.2.1 k hk, fun p hp => h.2.2.1 _ (by omega), fun p x y j z => h.2.2.2.2 p x y j z, fun j _ => congrFun (h.2.2.1 (d + 2) (by omega)) j⟩
theorem look_ld {m m1 : MM} {d tt : Nat} (o : OM m m1 d [46, 47] [32, 33]) (f : FH m m1 d tt) : LD m m1 d tt := by
  refine ⟨o.od.1, fun a ha => o.2.2.1 a (by omega) (fun x _ => by omega), fun k _ _ _ hk => o.I (by simp; omega), fun p hp => o.2.2.1 _ (by omega) (fun x hx => by simp at hx; omega), fun p x y j z => ?_, fun j _ => o.A (by omega) (by simp) j⟩
  by_cases w : p = 32 ∨ p = 33
  · have e : hsz p = 2100 := hz2100 p (by omega) (by omega) (by omega)
    rw [e] at z
    exact f p j w z
  · exact o.A (by omega) (by simp; omega) j
theorem ld_fault {G : GG} {m : MM} {d k p : Nat} (h46 : gI m d 46 = nI k) (h47 : gI m d 47 = nI p) (hk : k ≠ 0) (hk2 : k < 100) : B_X11_load_80 G d m = some (-10 - nI k, sI (sI (sI m d 54 (nI k)) d 55 (nI p)) d 4 (gI m d 3)) := by
  have n0 : ¬ nI k ≤ 0 := nI_nle (by omega) (by omega)
  unfold B_X11_load_80
  rw [h46, gI_sI_ne (Or.inr (by omega)), h46, if_neg n0, gI_sI_ne (Or.inr (by omega)), h47]
  unfold B_X11_load_105
  have e3 : gI (sI (sI m d 54 (nI k)) d 55 (nI p)) d 3 = gI m d 3 := by rw [gI_sI_ne (Or.inr (by omega)), gI_sI_ne (Or.inr (by omega))]
  have e54 : gI (sI (sI (sI m d 54 (nI k)) d 55 (nI p)) d 4 (gI m d 3)) d 54 = nI k := by rw [gI_sI_ne (Or.inr (by omega)), gI_sI_ne (Or.inr (by omega)), gI_sI_eq]
  rw [gI_sI_ne (Or.inr (by omega)), gI_sI_ne (Or.inr (by omega)), h46, if_neg n0, e3, e54]
theorem ld_ok {G : GG} {m : MM} {d : Nat} (h46 : gI m d 46 = nI 0) : B_X11_load_80 G d m = B_X11_load_141 G FU d 0 (sI (sI (sI m d 54 (nI 0)) d 55 (-1000009)) d 3 (gI m d 4)) := by
  unfold B_X11_load_80
  rw [h46, gI_sI_ne (Or.inr (by omega)), h46, if_pos (by rw [nI_0]; decide)]
  unfold B_X11_load_105
  rw [gI_sI_ne (Or.inr (by omega)), gI_sI_ne (Or.inr (by omega)), h46, if_pos (by rw [nI_0]; decide), gI_sI_ne (Or.inr (by omega)), gI_sI_ne (Or.inr (by omega))]
theorem LM.ld {G : GG} {m m1 : MM} {d : Nat} (h : LM G m d) (o : m1.2 = m.2) : LM G m1 d := fun s hs => ⟨by show m1.2.2 d s = _; rw [o]; exact (h s hs).1, (h s hs).2⟩
/-- a load with a fault: the reference's state -/
theorem zr_bad {G : GG} {m m1 : MM} {d tt lenT len k p : Nat} {BT BT' B : Nat → Int32} {P : List Enm} {K : List Ko} {g : Sg} {he : Nat} {hs : List Nat} {ca : Nat} {fc : Int32} {F : Nat × Nat} (h : ZR G m d tt lenT BT len B P K g he hs ca fc F) (hP : PB P) (hg : (gvi 0 K).length ≤ 500) (hK : (aK K).length ≤ 2000) (hX : Tx B len) (o : LD m m1 d (1 - tt)) (h1 : gI m1 d 1 = nI 0) (hk : k ≠ 0) : ZR G (sI (sI (sI m1 d 54 (nI k)) d 55 (nI p)) d 4 (gI m1 d 3)) d tt 0 BT' len B P K g he hs ca fc (k, p) ∧ OD m (sI (sI (sI m1 d 54 (nI k)) d 55 (nI p)) d 4 (gI m1 d 3)) d := by
  obtain ⟨a1, ⟨a2, a3⟩, a4, a6, a7, a8, a9, a10, a11, a12⟩ := h
  obtain ⟨o1, o2, o3, o4, o5, o6⟩ := o
  obtain ⟨mF, em⟩ : ∃ mF, sI (sI (sI m1 d 54 (nI k)) d 55 (nI p)) d 4 (gI m1 d 3) = mF := ⟨_, rfl⟩
  rw [em]
  have fi : ∀ q, 0 < q → mF.1 (d + q) = m1.1 (d + q) := fun q hq => by rw [← em, fI hq, fI hq, fI hq]
  have gi : ∀ q, q ≠ 54 → q ≠ 55 → q ≠ 4 → gI mF d q = gI m1 d q := fun q x y z => by rw [← em, gI_sI_ne (Or.inr z), gI_sI_ne (Or.inr y), gI_sI_ne (Or.inr x)]
  have r2 : mF.2 = m.2 := by rw [← em]; exact o1
  have hL : LM G mF d := a1.ld r2
  have g3 : gI mF d 3 = gI m d 3 := by rw [gi 3 (by omega) (by omega) (by omega)]; exact o3 3 (by omega) (by omega) (by omega) (by omega)
  have hf : ∀ q, 3 ≤ q → q ≤ 40 → ∀ j, hsz q * tt ≤ j → j < hsz q * tt + hsz q → gI mF (d + q) j = gI m (d + q) j := fun q x y j z w => by
    rw [show gI mF (d + q) j = gI m1 (d + q) j from congrFun (fi q (by omega)) j]
    refine o5 q x y j ?_
    rcases (show tt = 0 ∨ tt = 1 by omega) with u | u
    · rw [u] at z w ⊢
      simp at w ⊢
      exact Or.inl w
    · rw [u] at z w ⊢
      simp at z ⊢
      exact z
  have x2 : ∀ i, i < len → gI mF (d + 2) (2000 * tt + i) = gI m (d + 2) (2000 * tt + i) := fun i hi => by
    have := hX.1
    rw [show gI mF (d + 2) (2000 * tt + i) = gI m1 (d + 2) (2000 * tt + i) from congrFun (fi 2 (by omega)) _]
    exact o6 _ (by omega)
  refine ⟨⟨hL, ⟨g3.trans a2, a3⟩, ⟨by rw [gi 1 (by omega) (by omega) (by omega)]; exact h1, fun i hi => by omega⟩, (hf 3 (by omega) (by omega) tt (by show 1 * tt ≤ tt; omega) (by show tt < 1 * tt + 1; omega)).trans a6, fun z => ⟨(a7 z).1.half hP hg hK hL g3 hf, fun i hi => (x2 i hi).trans ((a7 z).2 i hi)⟩, a8.kept (fun i x y => (fi i (by omega)).trans (o4 i (by omega))), a9.kept ((gi 61 (by omega) (by omega) (by omega)).trans (o3 61 (by omega) (by omega) (by omega) (by omega))) ((fi 46 (by omega)).trans (o4 46 (by omega))), ⟨by rw [gi 62 (by omega) (by omega) (by omega), o3 62 (by omega) (by omega) (by omega) (by omega)]; exact a10.1, by rw [gi 63 (by omega) (by omega) (by omega), o3 63 (by omega) (by omega) (by omega) (by omega)]; exact a10.2⟩, ⟨by rw [gi 71 (by omega) (by omega) (by omega), o3 71 (by omega) (by omega) (by omega) (by omega)]; exact a11.1, fun z => by rw [gi 72 (by omega) (by omega) (by omega), o3 72 (by omega) (by omega) (by omega) (by omega)]; exact a11.2.1 z, fun i c hc => (congrFun ((fi 52 (by omega)).trans (o4 52 (by omega))) i).trans (a11.2.2 i c hc)⟩, ?_, ?_⟩, r2, fun a ha => ?_⟩
  · rw [← em, gI_sI_ne (Or.inr (by omega)), gI_sI_ne (Or.inr (by omega)), gI_sI_eq]
  · rw [if_neg (show ¬ (k, p).1 = 0 from hk), ← em, gI_sI_ne (Or.inr (by omega)), gI_sI_eq]
  · rw [← em, sI_ne (by omega), sI_ne (by omega), sI_ne (by omega)]
    exact o2 a ha
theorem rl_load {G : GG} {m : MM} {d tt lenT len : Nat} {BT BT' B : Nat → Int32} {P : List Enm} {K : List Ko} {g : Sg} {he : Nat} {hs : List Nat} {ca : Nat} {fc : Int32} {F : Nat × Nat} (h : ZR G m d tt lenT BT len B P K g he hs ca fc F) (hP : PB P) (hg : (gvi 0 K).length ≤ 500) (hK : (aK K).length ≤ 2000) (hX : Tx B len) (hXT : Tx BT lenT) (hBy : By BT lenT) : (∀ r, pTx 9 [] [] (tks BT lenT 0) = (none, r) → ∃ m1, M_X11_load G d m = some (-10 - nI 1, m1) ∧ ZR G m1 d tt 0 BT' len B P K g he hs ca fc (1, plc r) ∧ OD m m1 d) ∧ ∀ P' K' r, pTx 9 [] [] (tks BT lenT 0) = (some (P', K'), r) → ∃ m1 F1, MF (NR BT K' P') F1 ∧ PB P' ∧ FI P' K' r ∧ K'.length ≤ 2000 ∧ (aK K').length ≤ 2000 ∧ (gvi 0 K').length ≤ 500 ∧ OD m m1 d ∧ (F1.1 ≠ 0 → M_X11_load G d m = some (-10 - nI F1.1, m1) ∧ ZR G m1 d tt 0 BT' len B P K g he hs ca fc F1) ∧ (F1.1 = 0 → M_X11_load G d m = some (nI P'.length, m1) ∧ ∀ F', F'.1 = 0 → ZR G m1 d (1 - tt) 0 BT' lenT BT P' K' gz he [] ca fc F') := by
  have h0 := h
  obtain ⟨a1, ⟨a2, a3⟩, a4, a6, a7, a8, a9, a10, a11, a12⟩ := h
  have hlT := hXT.1
  have t1 : (1 : Int32) - nI tt = nI (1 - tt) := by rw [show (1 : Int32) = nI 1 from rfl, pk_sub (by omega)]
  -- the copy
  have o0 : OM m (sI (sI m d 4 (nI (1 - tt))) d 5 (nI lenT)) d [4, 5] [] := OM.tr1 (OM.f.mono (by simp) (by simp)) (OM.f.mono (by simp) (by simp))
  obtain ⟨mT, c1, c2, c3, c4⟩ := ld_copy (G := G) (d := d) (tt := 1 - tt) (lenT := lenT) (BT := BT) (by omega) hlT FU 0 (sI (sI m d 4 (nI (1 - tt))) d 5 (nI lenT)) (a1.kept o0) (by rw [o0.I (by simp)]; exact a4.1) (by rw [gI_sI_ne (Or.inr (by omega)), gI_sI_eq]) (fun i hi => by rw [o0.A (by omega) (by simp)]; exact a4.2 i hi) (fun i hi => by omega) (by unfold FU; omega) (by omega)
  have pre : M_X11_load G d m = (bd (M_X11_readText G d (sI (sI mT d 1 0) d 53 0)) fun _ m_4 => bd (M_X11_isGood G d m_4) fun r_5 m_6 => if r_5 = true then bd (M_X11_lookAtAll G d m_6) fun _ m_8 => B_X11_load_80 G d m_8 else B_X11_load_80 G d m_6) := by
    unfold M_X11_load
    rw [a2, t1, gI_sI_ne (Or.inr (by omega)), a4.1]
    rw [nI_0] at c1
    exact c1
  have oU : OM mT (sI (sI mT d 1 0) d 53 0) d [1, 53] [] := OM.tr1 (OM.f.mono (by simp) (by simp)) (OM.f.mono (by simp) (by simp))
  have hLT : LM G mT d := (a1.kept o0).kept c2
  have hLU : LM G (sI (sI mT d 1 0) d 53 0) d := hLT.kept oU
  have hTM : TM (sI (sI mT d 1 0) d 53 0) d (1 - tt) lenT BT := ⟨by rw [oU.I (by simp), c2.I (by simp), gI_sI_ne (Or.inr (by omega)), gI_sI_eq], by omega, by rw [oU.I (by simp), c2.I (by simp), gI_sI_eq], hXT, fun i hi => by rw [oU.A (by omega) (by simp)]; exact c3 i hi⟩
  have h53 : gI (sI (sI mT d 1 0) d 53 0) d 53 = nI 0 := by rw [gI_sI_eq]; rfl
  have h1U : gI (sI (sI mT d 1 0) d 53 0) d 1 = nI 0 := by rw [gI_sI_ne (Or.inr (by omega)), gI_sI_eq]; rfl
  have ldU : LD m (sI (sI mT d 1 0) d 53 0) d (1 - tt) := by
    refine ⟨oU.od.1.trans (c2.od.1.trans o0.od.1), fun a ha => (oU.od.2 a ha).trans ((c2.od.2 a ha).trans (o0.od.2 a ha)), fun k x y z w => ?_, fun p hp => ?_, fun p x y j _ => ?_, fun j hj => ?_⟩
    · rw [oU.I (by simp; omega), c2.I (by simp), o0.I (by simp; omega)]
    · exact (oU.2.2.1 _ (by omega) (by simp)).trans ((c2.2.2.1 _ (by omega) (fun q hq => by simp at hq; omega)).trans (o0.2.2.1 _ (by omega) (by simp)))
    · rw [oU.A (by omega) (by simp), c2.A (by omega) (by simp; omega), o0.A (by omega) (by simp)]
    · rw [oU.A (by omega) (by simp), c4 j hj, o0.A (by omega) (by simp)]
  obtain ⟨g1, g2⟩ := mm_readText hLU hTM hBy h53
  constructor
  · intro r hr
    obtain ⟨m1, e1, e2, e3⟩ := g2 r hr
    have ld1 := ldU.tr e2.ld
    have h11 : gI m1 d 1 = nI 0 := by rw [e2.2.2.2.1 1 (by omega)]; exact h1U
    obtain ⟨b1, b2⟩ := zr_bad (BT' := BT') (k := 1) (p := plc r) h0 hP hg hK hX ld1 h11 (by decide)
    refine ⟨_, ?_, b1, b2⟩
    rw [pre, bd_e e1, bd_e e3.bad, if_neg (by decide), ld_fault e3.1 e3.2.1 (by decide) (by decide)]
  · intro P' K' r hr
    obtain ⟨m1, e1, e2, e3⟩ := g1 P' K' r hr
    obtain ⟨u1, u2, u3, u4, u5, u6, u7, u8, u9, u10, u11, u12, u13⟩ := e3
    have hr1 : 1 ≤ r.length := by
      obtain ⟨c, rs, p1, w, -⟩ := u4
      rw [w, List.length_cons]
      omega
    have hFI := fi_text hXT hBy hr
    obtain ⟨f1, f2, f3, f4, f5⟩ := id hFI
    have hgood : M_X11_isGood G d m1 = some (true, m1) := by
      unfold M_X11_isGood
      rw [u7]
      rfl
    have hV : VQ G m1 d (1 - tt) lenT BT K' P' := ⟨u1, u2, u8, u9, u10, by omega, f2, f3⟩
    have hRA : RA m1 d (1 - tt) BT (aK K') := ⟨u5.1, u5.2 rfl⟩
    obtain ⟨m2, F1, l1, l2, l3, l4, l5, l6, l7⟩ := look_all (by omega) hV hRA u7
    have ld2 := (ldU.tr e2.ld).tr (look_ld l2 l7)
    have h12 : gI m2 d 1 = nI 0 := by rw [l2.I (by simp), e2.2.2.2.1 1 (by omega)]; exact h1U
    have preG : M_X11_load G d m = B_X11_load_80 G d m2 := by rw [pre, bd_e e1, bd_e hgood, if_pos rfl, bd_e l1]
    by_cases w : F1.1 = 0
    · have h46 : gI m2 d 46 = nI 0 := by rw [l3.1, w]
      have h4 : gI m2 d 4 = nI (1 - tt) := by rw [l2.I (by simp)]; exact u2.1
      have hL2 : LM G m2 d := u1.kept l2
      have oV : OM m2 (sI (sI (sI m2 d 54 (nI 0)) d 55 (-1000009)) d 3 (nI (1 - tt))) d [3, 54, 55] [] := OM.tr1 (OM.f.mono (by simp) (by simp)) (OM.tr1 (OM.f.mono (by simp) (by simp)) (OM.f.mono (by simp) (by simp)))
      obtain ⟨m3, s1, s2, s3⟩ := ld_st (G := G) (d := d) FU 0 (sI (sI (sI m2 d 54 (nI 0)) d 55 (-1000009)) d 3 (nI (1 - tt))) (hL2.kept oV) (fun i hi => by omega) (by unfold FU; omega) (by omega)
      have oW : OM m3 (sI (sI m3 d 61 0) d 71 0) d [61, 71] [] := OM.tr1 (OM.f.mono (by simp) (by simp)) (OM.f.mono (by simp) (by simp))
      obtain ⟨mG, em⟩ : ∃ mG, sI (sI m3 d 61 0) d 71 0 = mG := ⟨_, rfl⟩
      rw [em] at oW
      have oA : OM m2 mG d [3, 54, 55, 61, 71] [42] := OM.tr1 (oV.mono (by simp) (by simp)) (OM.tr1 (s2.mono (by simp) (by simp)) (oW.mono (by simp) (by simp)))
      have hLG : LM G mG d := hL2.kept oA
      have g3 : gI mG d 3 = nI (1 - tt) := by rw [oW.I (by simp), s2.I (by simp), gI_sI_eq]
      have fa : ∀ p, 0 < p → p ≠ 42 → mG.1 (d + p) = m2.1 (d + p) := fun p hp hq => oA.2.2.1 _ (by omega) (fun x hx => by simp at hx; omega)
      have fl : ∀ p, p ≠ 3 → p ≠ 54 → p ≠ 55 → p ≠ 61 → p ≠ 71 → gI mG d p = gI m2 d p := fun p x y z w v => oA.I (by simp; omega)
      have hQ2 : QP m2 d (1 - tt) BT K' P' := u8.eq (fun i x y => l2.2.2.1 _ (by omega) (fun q hq => by simp at hq; omega))
      have hG2 : GV m2 d (1 - tt) BT K' := u9.eq (fun i x y => l2.2.2.1 _ (by omega) (fun q hq => by simp at hq; omega))
      have hQG : QP mG d (1 - tt) BT K' P' := hQ2.eq (fun i x y => fa i (by omega) (by omega))
      have hRQ : RQ G mG d (1 - tt) BT K' P' := by
        refine ⟨hLG, g3, by omega, hQG, hG2.eq (fun i x y => fa i (by omega) (by omega)), l5.kept (fun i x y z => fa i (by omega) (by omega)), fun j q hq => ?_⟩
        obtain ⟨q1, q2⟩ := l6 j q hq
        unfold AB
        rw [show ∀ jj, gI mG (d + 32) jj = gI m2 (d + 32) jj from fun jj => congrFun (fa 32 (by omega) (by omega)) jj, show ∀ jj, gI mG (d + 33) jj = gI m2 (d + 33) jj from fun jj => congrFun (fa 33 (by omega) (by omega)) jj]
        exact ⟨q1, q2⟩
      have tx : ∀ i, i < lenT → gI mG (d + 2) (2000 * (1 - tt) + i) = BT i := fun i hi => by
        rw [show gI mG (d + 2) (2000 * (1 - tt) + i) = gI m2 (d + 2) (2000 * (1 - tt) + i) from congrFun (fa 2 (by omega) (by omega)) _, l2.A (by omega) (by simp)]
        exact u2.2.2.2.2 i hi
      refine ⟨mG, F1, l4, u10, hFI, by omega, by omega, by omega, ⟨oA.od.1.trans ld2.1, fun a ha => (oA.od.2 a ha).trans (ld2.2.1 a ha)⟩, fun z => absurd w z, fun _ => ⟨?_, fun F' hF' => ⟨hLG, ⟨g3, by omega⟩, ⟨by rw [fl 1 (by omega) (by omega) (by omega) (by omega) (by omega)]; exact h12, fun i hi => by omega⟩, hQG.1, fun _ => ⟨hRQ, tx⟩, fun e E hE => ?_, ⟨?_, by show 0 ≤ 200; omega, fun k v hk => by simp [gz] at hk⟩, ⟨?_, ?_⟩, ⟨?_, fun z => absurd rfl z, fun i c hc => by simp at hc⟩, ?_, ?_⟩⟩⟩
      · rw [preG, ld_ok h46, h4]
        refine Eq.trans (show B_X11_load_141 G FU d 0 _ = _ from s1) ?_
        rw [em, nb_e (mr_6 hLG), mz_6 hLG, g3, ib_n (by omega) (by omega), nI_clamp (by omega), hQG.1]
      · have he8 : e < 8 := by have := get_lt hE; have := u10.1; omega
        have ez : gI mG (d + 42) e = 0 := (congrFun (oW.2.2.1 _ (by omega) (by simp)) e).trans (s3 e he8)
        refine ⟨by rw [ez]; rfl, fun z => absurd z (by show (0 : Nat) ≠ 3; decide), fun c _ z => ?_, fun i q _ _ z => ?_⟩
        · rcases z with z | ⟨z, -⟩
          · exact absurd (show (0 : Nat) = 1 from z) (by decide)
          · exact absurd (show (0 : Nat) = 3 from z) (by decide)
        · rcases z with z | ⟨z, -⟩
          · exact absurd (show (0 : Nat) = 1 from z) (by decide)
          · exact absurd (show (0 : Nat) = 3 from z) (by decide)
      · rw [← em, gI_sI_ne (Or.inr (by omega)), gI_sI_eq]; rfl
      · rw [fl 62 (by omega) (by omega) (by omega) (by omega) (by omega), ld2.2.2.1 62 (by omega) (by omega) (by omega) (by omega)]; exact a10.1
      · rw [fl 63 (by omega) (by omega) (by omega) (by omega) (by omega), ld2.2.2.1 63 (by omega) (by omega) (by omega) (by omega)]; exact a10.2
      · rw [← em, gI_sI_eq]; rfl
      · rw [oW.I (by simp), s2.I (by simp), gI_sI_ne (Or.inr (by omega)), gI_sI_ne (Or.inr (by omega)), gI_sI_eq, hF']
      · rw [oW.I (by simp), s2.I (by simp), gI_sI_ne (Or.inr (by omega)), gI_sI_eq, if_pos hF']
    · obtain ⟨b1, b2⟩ := zr_bad (BT' := BT') (k := F1.1) (p := F1.2) h0 hP hg hK hX ld2 h12 w
      refine ⟨_, F1, l4, u10, hFI, by omega, by omega, by omega, b2, fun _ => ⟨?_, b1⟩, fun z => absurd z w⟩
      rw [preG, ld_fault l3.1 (l3.2.1 w) w l3.2.2.1]
/-- load, by both -/
theorem op_load {G : GG} {n : Nat} {m : MM} (h : INV G m n) : BOTH G n m (M_X10_load G n) (M_X11_load G (n + 216)) := by
  obtain ⟨pl, ps, tp, tl, tt, lenT, BT, len, B, P, K, gc, g, hd, hs, ca, fc, F, hA, hC, hR, hF⟩ := h
  have hP := hC.2.2.1.2.2.2.2.2.1
  have hXT := hC.2.2.2.1.tx
  have hBy : By BT lenT := fun i hi => hC.2.2.2.1.byte hi
  obtain ⟨f1, f2, f3, f4, f5, f6, f7, f8, f9, f10, f11⟩ := id hF
  obtain ⟨c1, c2⟩ := cl_load hA hC
  unfold BOTH
  cases hp : pTx 9 [] [] (tks BT lenT 0) with
  | mk o r =>
    cases o with
    | none =>
      obtain ⟨m1, k1, k2, k3⟩ := c1 r hp
      obtain ⟨m2, q1, q2, q3⟩ := (rl_load (BT' := fun i => if i < 0 then BT i else -1) (hR.ou k3) hP f11 f2 f10 hXT hBy).1 r hp
      exact ⟨_, m1, m2, k1, q1, pl, ps, tp, tl, tt, 0, _, len, B, P, K, gc, g, hd, hs, ca, fc, (1, plc r), hA, k2.od hA q3, q2, f1, f2, f3, f4, f5, f6, f7, by show 1 < 100; omega, f9, f10, f11⟩
    | some x =>
      obtain ⟨P', K'⟩ := x
      obtain ⟨m1, F1, gc1, k1, k2, k3, k4, k5, k6⟩ := c2 P' K' r hp
      by_cases w : F1.1 = 0
      · obtain ⟨x1, x2⟩ := k6 w
        obtain ⟨m2, F2, q1, q2, q3, q4, q5, q6, q7, q8, q9⟩ := (rl_load (BT' := fun _ => -1) (hR.ou k4) hP f11 f2 f10 hXT hBy).2 P' K' r hp
        obtain ⟨e1, e2⟩ := eq_faults q2 q3 k1 k2 q1
        obtain ⟨y1, y2⟩ := q9 (by rw [← e1]; exact w)
        obtain ⟨z1, z2, z3, z4, z5, z6⟩ := hA
        have hA2 : ZA n ps pl tl tp := ⟨z2, z1, fun z => z3 z.symm, z5, z4, fun z => z6 z.symm⟩
        obtain ⟨g1, g2, g3, g4, g5⟩ := id q3
        have hnr : ∀ x, ¬ NR BT K' P' x := by
          rcases q1 with ⟨-, u⟩ | ⟨u, -⟩
          · exact u
          · exact absurd (by rw [← e1]; exact w) u
        refine ⟨_, m1, m2, x1, y1, ps, pl, tl, tp, 1 - tt, 0, fun _ => -1, lenT, BT, P', K', gc1, gz, hd, [], ca, fc, F1, hA2, x2.od hA2 q7, y2 F1 w, ⟨q2, g2, g3, g4, hnr, q4⟩, q5, k1, fun e E hE => ?_, fun e he => by show (0 : Nat) ≠ 3; decide, ⟨by simp, f6.2.1, fun z => absurd rfl z⟩, f7, k3, trivial, hXT, q6⟩
        exact ⟨by show 0 ≤ 3; omega, by show 0 ≤ _; omega, fun _ => ⟨rfl, fun _ => rfl⟩, fun z => absurd (show (0 : Nat) = 1 from z) (by decide), fun z => absurd (show (0 : Nat) = 3 from z) (by decide)⟩
      · obtain ⟨x1, x2⟩ := k5 w
        obtain ⟨m2, F2, q1, q2, q3, q4, q5, q6, q7, q8, q9⟩ := (rl_load (BT' := fun i => if i < 0 then BT i else -1) (hR.ou k4) hP f11 f2 f10 hXT hBy).2 P' K' r hp
        obtain ⟨e1, e2⟩ := eq_faults q2 q3 k1 k2 q1
        have ef := e2 w
        obtain ⟨y1, y2⟩ := q8 (by rw [← e1]; exact w)
        rw [← ef] at y1 y2
        exact ⟨_, m1, m2, x1, y1, pl, ps, tp, tl, tt, 0, _, len, B, P, K, gc, g, hd, hs, ca, fc, F1, hA, x2.od hA q7, y2, f1, f2, f3, f4, f5, f6, f7, k3, f9, f10, f11⟩
