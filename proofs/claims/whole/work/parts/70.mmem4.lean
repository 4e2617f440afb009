/-! ===== L2: the reference reads makers ===== -/
theorem QK.ge0 {m : MM} {d ge : Nat} {K : List Ko} {mk : List Mem} (h : QK m d ge K mk) (hK : (aK K).length < 100000) (hP : ∀ q ∈ mk, q.2.1 < 4096) : (mk = [] → ¬ 0 ≤ gI m (d + 9) ge) ∧ (mk ≠ [] → 0 ≤ gI m (d + 9) ge) ∧ ((mk = [] ∨ ∃ q, mk = [q]) → ¬ 0 ≤ gI m (d + 38) ge) ∧ ((∃ q r l, mk = q :: r :: l) → 0 ≤ gI m (d + 38) ge) := by
  have hct : ∀ a, ct K a ≤ (aK K).length := fun a => by
    unfold ct aK
    exact (List.Sublist.filter _ (List.take_sublist a K)).length_le
  have n1 : ¬ (0 : Int32) ≤ -1 := by decide
  refine ⟨fun z => ?_, fun z => ?_, fun z => ?_, fun z => ?_⟩
  · subst z
    rw [h.1]
    exact n1
  · cases mk with
    | nil => exact absurd rfl z
    | cons q l =>
      obtain ⟨⟨s, b1, b2, b3⟩, -⟩ := h
      rw [b2]
      have := hct q.2.2.2
      exact nI_pos' (by omega)
  · rcases z with z | ⟨q, z⟩
    · subst z
      rw [h.2]
      exact n1
    · subst z
      have : gI m (d + 38) ge = -1 := h.2
      rw [this]
      exact n1
  · obtain ⟨q, r, l, rfl⟩ := z
    have : gI m (d + 38) ge = nI r.2.1 := h.2
    rw [this]
    have := hP r (by simp)
    exact nI_pos' (by omega)
theorem mb_mk {G : GG} {m m0 : MM} {d tt len p pl : Nat} {B : Nat → Int32} {K : List Ko} {Q : List Enm} {cs : List Con} {ms : List Mem} {l : List Tok} (h : RT G m d tt len B K Q (p, cs, ms) l) (hpl : gI m0 d 42 = nI pl) (hpl2 : pl < 4096) (hK1 : K.length + 1 + l.length ≤ 2001) : (∀ ms1 K1 r, (match pEx Q.length 2 0 (K ++ [mkK Q.length]) l with
      | (some K1, r) => (some (ms ++ [(9, pl, 0, K.length + 1)], K1), r)
      | (none, r) => (none, r)) = (some (ms1, K1), r) → RG G m d tt len B (bd (M_X11_need G d 61 m) fun _ m_59 => nb (gR m_59 d 33) fun b_60 => ib (gI m_59 d 4) (G.2.2 b_60) <| bd (M_X11_readExp G d m_59) fun _ m_62 => nb (gR m_62 d 12) fun b_63 => ib (gI m_62 d 48) (G.2.2 b_63) <| if 0 ≤ (gI m_62 b_63 ((gI m_62 d 48).toNatClampNeg)) then nb (gR m_62 d 49) fun b_64 => ib (gI m_62 d 48) (G.2.2 b_64) <| if 0 ≤ (gI m_62 b_64 ((gI m_62 d 48).toNatClampNeg)) then B_X11_readMember_108 G FU d (gI m_59 b_60 ((gI m_59 d 4).toNatClampNeg)) m_62 else ib (gI m_62 d 48) (G.2.2 b_64) <| B_X11_readMember_108 G FU d (gI m_59 b_60 ((gI m_59 d 4).toNatClampNeg)) (sI m_62 b_64 ((gI m_62 d 48).toNatClampNeg) (gI m0 d 42)) else ib (gI m_62 d 48) (G.2.2 b_63) <| nb (gR (sI m_62 b_63 ((gI m_62 d 48).toNatClampNeg) (gI m_59 b_60 ((gI m_59 d 4).toNatClampNeg))) d 13) fun b_65 => nb (gR (sI m_62 b_63 ((gI m_62 d 48).toNatClampNeg) (gI m_59 b_60 ((gI m_59 d 4).toNatClampNeg))) d 33) fun b_66 => ib (gI (sI m_62 b_63 ((gI m_62 d 48).toNatClampNeg) (gI m_59 b_60 ((gI m_59 d 4).toNatClampNeg))) d 4) (G.2.2 b_66) <| ib (gI (sI m_62 b_63 ((gI m_62 d 48).toNatClampNeg) (gI m_59 b_60 ((gI m_59 d 4).toNatClampNeg))) d 48) (G.2.2 b_65) <| B_X11_readMember_108 G FU d (gI m_59 b_60 ((gI m_59 d 4).toNatClampNeg)) (sI (sI m_62 b_63 ((gI m_62 d 48).toNatClampNeg) (gI m_59 b_60 ((gI m_59 d 4).toNatClampNeg))) b_65 ((gI (sI m_62 b_63 ((gI m_62 d 48).toNatClampNeg) (gI m_59 b_60 ((gI m_59 d 4).toNatClampNeg))) d 48).toNatClampNeg) (gI (sI m_62 b_63 ((gI m_62 d 48).toNatClampNeg) (gI m_59 b_60 ((gI m_59 d 4).toNatClampNeg))) b_66 ((gI (sI m_62 b_63 ((gI m_62 d 48).toNatClampNeg) (gI m_59 b_60 ((gI m_59 d 4).toNatClampNeg))) d 4).toNatClampNeg)))) K1 Q (p, cs, ms1) r) ∧ ∀ r, (match pEx Q.length 2 0 (K ++ [mkK Q.length]) l with
      | (some K1, r) => (some (ms ++ [(9, pl, 0, K.length + 1)], K1), r)
      | (none, r) => ((none, r) : Option (List Mem × List Ko) × List Tok)) = (none, r) → RB G m d tt len B (bd (M_X11_need G d 61 m) fun _ m_59 => nb (gR m_59 d 33) fun b_60 => ib (gI m_59 d 4) (G.2.2 b_60) <| bd (M_X11_readExp G d m_59) fun _ m_62 => nb (gR m_62 d 12) fun b_63 => ib (gI m_62 d 48) (G.2.2 b_63) <| if 0 ≤ (gI m_62 b_63 ((gI m_62 d 48).toNatClampNeg)) then nb (gR m_62 d 49) fun b_64 => ib (gI m_62 d 48) (G.2.2 b_64) <| if 0 ≤ (gI m_62 b_64 ((gI m_62 d 48).toNatClampNeg)) then B_X11_readMember_108 G FU d (gI m_59 b_60 ((gI m_59 d 4).toNatClampNeg)) m_62 else ib (gI m_62 d 48) (G.2.2 b_64) <| B_X11_readMember_108 G FU d (gI m_59 b_60 ((gI m_59 d 4).toNatClampNeg)) (sI m_62 b_64 ((gI m_62 d 48).toNatClampNeg) (gI m0 d 42)) else ib (gI m_62 d 48) (G.2.2 b_63) <| nb (gR (sI m_62 b_63 ((gI m_62 d 48).toNatClampNeg) (gI m_59 b_60 ((gI m_59 d 4).toNatClampNeg))) d 13) fun b_65 => nb (gR (sI m_62 b_63 ((gI m_62 d 48).toNatClampNeg) (gI m_59 b_60 ((gI m_59 d 4).toNatClampNeg))) d 33) fun b_66 => ib (gI (sI m_62 b_63 ((gI m_62 d 48).toNatClampNeg) (gI m_59 b_60 ((gI m_59 d 4).toNatClampNeg))) d 4) (G.2.2 b_66) <| ib (gI (sI m_62 b_63 ((gI m_62 d 48).toNatClampNeg) (gI m_59 b_60 ((gI m_59 d 4).toNatClampNeg))) d 48) (G.2.2 b_65) <| B_X11_readMember_108 G FU d (gI m_59 b_60 ((gI m_59 d 4).toNatClampNeg)) (sI (sI m_62 b_63 ((gI m_62 d 48).toNatClampNeg) (gI m_59 b_60 ((gI m_59 d 4).toNatClampNeg))) b_65 ((gI (sI m_62 b_63 ((gI m_62 d 48).toNatClampNeg) (gI m_59 b_60 ((gI m_59 d 4).toNatClampNeg))) d 48).toNatClampNeg) (gI (sI m_62 b_63 ((gI m_62 d 48).toNatClampNeg) (gI m_59 b_60 ((gI m_59 d 4).toNatClampNeg))) b_66 ((gI (sI m_62 b_63 ((gI m_62 d 48).toNatClampNeg) (gI m_59 b_60 ((gI m_59 d 4).toNatClampNeg))) d 4).toNatClampNeg)))) Q.length r := by
  obtain ⟨b1, b2, b3, b4⟩ := h.eb
  have hL := h.1.1
  obtain ⟨q1, q2, q3, q4, q5, q6⟩ := h.2.1.cur
  have hAb := h.1.2.2.2.2.2.2.2.2.2.1
  have cg : (nI (8 * tt + Q.length)).toNatClampNeg = 8 * tt + Q.length := nI_clamp (by omega)
  have ct' : (nI tt).toNatClampNeg = tt := nI_clamp (by omega)
  obtain ⟨mC, mD, f1, f2, f3, f4, f5, f6, f7, f8⟩ := mx_eq (c := 0) h.1
  rw [show (61 : Int32) = nI 61 from rfl, bd_e f1, nb_e (mr_33 f5), mz_33 f5, f6, ib_n (by omega) (by omega), bd_e f2, ct', f7]
  have oe := f3.tr f4
  have hM : LM G mD d := f5.oh f4
  have h48 : gI mD d 48 = nI (8 * tt + Q.length) := by rw [oe.2.2.2.1 48 (by omega)]; exact h.1.2.2.2.2.2.2.2.1
  have h4 : gI mD d 4 = nI tt := by rw [oe.2.2.2.1 4 (by omega)]; exact h.1.2.1.1
  rw [nb_e (mr_12 hM), mz_12 hM, h48, ib_n (by omega) (by omega), cg, nb_e (mr_49 hM), mz_49 hM, ib_n (by omega) (by omega), ib_n (by omega) (by omega), ib_n (by omega) (by omega)]
  simp only [gR_sI]
  rw [nb_e (mr_13 hM), mz_13 hM, nb_e (mr_33 hM), mz_33 hM, gI_sI_ne (Or.inl (show d ≠ d + 9 by omega)), gI_sI_ne (Or.inl (show d ≠ d + 9 by omega)), h4, h48, ib_n (by omega) (by omega), ib_n (by omega) (by omega), cg, ct', gI_sI_ne (Or.inl (show d + 30 ≠ d + 9 by omega)), hpl]
  rcases f8 with ⟨p61, pb, pr, po, plen⟩ | ⟨A1, l1, r, pr, pe⟩
  · rw [pr.2.2.2.2.1.1]
    obtain ⟨mq, emq⟩ : ∃ mq : Mem, mq = (9, pl, 0, K.length + 1) := ⟨_, rfl⟩
    have hm9 : mq.1 = 9 := by rw [emq]
    obtain ⟨K1, eK1⟩ : ∃ K1, K ++ [mkK Q.length] ++ (pX l.tail).2.1.map (kox Q.length 2 0) ++ [stK Q.length 2 0] = K1 := ⟨_, rfl⟩
    have eK2 : K1 = K ++ ([mkK Q.length] ++ (pX l.tail).2.1.map (kox Q.length 2 0) ++ [stK Q.length 2 0]) := by rw [← eK1]; simp
    have hsg : SG K1 (K.length + 1) ((pX l.tail).2.1.map (kox Q.length 2 0)) := by
      have := SG_ex (K := K ++ [mkK Q.length]) (en := Q.length) (so := 2) (c := 0) po
      rw [eK1, List.length_append, List.length_singleton] at this
      exact this
    have hct : ct K1 (K.length + 1) = (aK K).length := by
      have := ct_len (K := K ++ [mkK Q.length]) (X := (pX l.tail).2.1.map (kox Q.length 2 0) ++ [stK Q.length 2 0])
      rw [← List.append_assoc, eK1, List.length_append, List.length_singleton] at this
      rw [this, aK_app]
      simp [aK, isA, mkK]
    have eaK : aK K1 = aK K ++ (pX l.tail).2.1.map (kox Q.length 2 0) := by
      rw [← eK1, aK_ex po, aK_app]
      simp [aK, isA, mkK]
    have hmp : ∀ q ∈ mks ms, q.2.1 < 4096 := fun q hq => (b2.2.2.2.2 q (List.mem_filter.mp hq).1).2.2.1
    have qD := q6.eq (oe.eqa (os := [9, 10, 38]) (by simp))
    obtain ⟨k1, k2, k3, k4⟩ := qD.ge0 (by omega) hmp
    -- which of the three
    obtain ⟨mX, x1, x2, x3, x4, x5, x6⟩ : ∃ mX, (if 0 ≤ gI mD (d + 9) (8 * tt + Q.length) then (if 0 ≤ gI mD (d + 38) (8 * tt + Q.length) then B_X11_readMember_108 G FU d (nI (aK K).length) mD else B_X11_readMember_108 G FU d (nI (aK K).length) (sI mD (d + 38) (8 * tt + Q.length) (nI pl))) else B_X11_readMember_108 G FU d (nI (aK K).length) (sI (sI mD (d + 9) (8 * tt + Q.length) (nI (aK K).length)) (d + 10) (8 * tt + Q.length) (nI (aK K ++ (pX l.tail).2.1.map (kox Q.length 0 0)).length))) = B_X11_readMember_108 G FU d (nI (aK K).length) mX ∧ RE G mX d tt len B Q.length (aK K ++ (pX l.tail).2.1.map (kox Q.length 0 0)) [] (pX l.tail).2.2 none ∧ OH mD mX d tt ∧ EO mD mX d (8 * tt + Q.length) ∧ (∀ i, i ≠ 9 → i ≠ 10 → i ≠ 38 → i ≠ 0 → mX.1 (d + i) = mD.1 (d + i)) ∧ QK mX d (8 * tt + Q.length) K1 (mks (ms ++ [mq])) := by
      rw [mks_in hm9]
      cases hmk : mks ms with
      | nil =>
        rw [if_neg (k1 hmk)]
        refine ⟨_, rfl, (pr.wr (by omega) (by omega)).wr (by omega) (by omega), (OH.e (by omega) b3).tr (OH.e (by omega) b3), (EO.w (by omega)).tr (EO.w (by omega)), fun i i1 i2 i3 _ => by rw [(sI_off (show d + i ≠ d + 10 by omega)).1, (sI_off (show d + i ≠ d + 9 by omega)).1], ?_⟩
        have hsg2 : SG K1 mq.2.2.2 ((pX l.tail).2.1.map (kox Q.length 2 0)) := by rw [emq]; exact hsg
        have hct2 : ct K1 mq.2.2.2 = (aK K).length := by rw [emq]; exact hct
        rw [hmk] at qD
        refine ⟨⟨_, hsg2, by rw [gI_sI_ne (Or.inl (by omega)), gI_sI_eq, hct2], by rw [gI_sI_eq, hct2, List.length_append, List.length_map, List.length_map]⟩, ?_⟩
        show gI _ (d + 38) _ = -1
        rw [gI_sI_ne (Or.inl (by omega)), gI_sI_ne (Or.inl (by omega))]
        exact qD.2
      | cons q0 l0 =>
        rw [if_pos (k2 (by rw [hmk]; simp))]
        rw [hmk] at qD k3 k4
        have qK := qD.app (X := [mkK Q.length] ++ (pX l.tail).2.1.map (kox Q.length 2 0) ++ [stK Q.length 2 0])
        rw [← eK2] at qK
        cases l0 with
        | nil =>
          rw [if_neg (k3 (Or.inr ⟨q0, rfl⟩))]
          refine ⟨_, rfl, pr.wr (by omega) (by omega), OH.e (by omega) b3, EO.w (by omega), fun i i1 i2 i3 _ => by rw [(sI_off (show d + i ≠ d + 38 by omega)).1], ?_⟩
          obtain ⟨⟨s, y1, y2, y3⟩, y4⟩ := qK
          refine ⟨⟨s, y1, by rw [gI_sI_ne (Or.inl (by omega))]; exact y2, by rw [gI_sI_ne (Or.inl (by omega))]; exact y3⟩, ?_⟩
          show gI _ (d + 38) _ = nI mq.2.1
          rw [gI_sI_eq, emq]
        | cons q1 l1 =>
          rw [if_pos (k4 ⟨q0, q1, l1, rfl⟩)]
          exact ⟨mD, rfl, pr, OH.rf, EO.rf, fun i _ _ _ _ => rfl, qK⟩
    rw [x1]
    have hcnt := pX_cnt l.tail
    have hlt : l.tail.length ≤ l.length := by simp
    obtain ⟨mW, g1, g2, g3⟩ := mm_where1 (pX l.tail).2.1 FU mX (aK K) x2 (by unfold FU; omega)
    rw [g1]
    obtain ⟨n1, n2⟩ := mfin (m := m) g2
    unfold pEx
    rw [if_pos p61, pb, if_pos rfl]
    by_cases q59 : hd (pX l.tail).2.2 = 59
    · obtain ⟨mF, i1, i2, i3, i5⟩ := n1 q59
      rw [i1, if_pos q59]
      refine ⟨fun ms1 K3 r z => ?_, fun r z => by simp at z⟩
      cases z
      have oeF := g3.tr i3
      have hrl : l.tail.length + 1 = l.length := by cases l with | nil => simp [hd] at p61 | cons a b => simp
      refine ⟨mF, rfl, (oe.H.tr x3).tr oeF.H, ?_⟩
      rw [eK1, ← emq]
      have off : ∀ i, (3 ≤ i ∧ i ≤ 29) → i ≠ 9 → i ≠ 10 → mF.1 (d + i) = m.1 (d + i) := fun i i0 i9 i10 => by rw [oeF.2.2.1 (d + i) (by omega), x5 i i9 i10 (by omega) (by omega), oe.2.2.1 (d + i) (by omega)]
      have ea : ∀ os : List Nat, (∀ o ∈ os, 3 ≤ o ∧ o ≤ 29 ∧ o ≠ 9 ∧ o ≠ 10) → EQA m mF d os := fun os hos o ho => by
        obtain ⟨y1, y2, y3, y4⟩ := hos o ho
        exact off o ⟨y1, y2⟩ y3 y4
      have n56 : mq.1 ≠ 5 ∧ mq.1 ≠ 6 := by omega
      have n78 : mq.1 ≠ 7 ∧ mq.1 ≠ 8 := by omega
      refine h.setK eK2 (fun q hq => ?_) (by rw [eaK]; exact i2) ((oe.eo.tr x4).tr oeF.eo) (fun i i1 i2 => off i (by omega) (by omega) (by omega)) ⟨by rw [show gI mF (d + 4) _ = gI m (d + 4) _ from congrFun (off 4 (by omega) (by omega) (by omega)) _]; exact q1, by rw [show gI mF (d + 5) _ = gI m (d + 5) _ from congrFun (off 5 (by omega) (by omega) (by omega)) _]; exact q2, q3.eq (ea _ (by simp)), ?_, ?_, ?_⟩ ⟨b1, b2.mem (by rw [emq]; exact ⟨by simp, by simp, hpl2, by simp, by simp only; omega⟩) (fun z => by omega) (fun z => by omega)⟩ (by simp; omega) (by rw [← eK1]; simp only [List.length_append, List.length_map, List.length_singleton]; omega)
      · rw [List.append_assoc, List.mem_append, List.mem_singleton] at hq
        rcases hq with hq | hq
        · rw [hq]
          show 15 ≠ 14
          decide
        · exact ex_no14 po q hq
      · rw [eK2]
        have := (q4.eq (ea _ (by simp))).app (X := [mkK Q.length] ++ (pX l.tail).2.1.map (kox Q.length 2 0) ++ [stK Q.length 2 0])
        exact ⟨by rw [mbs_out n56]; exact this.1, fun i x hx => this.2 i x (by rw [mbs_out n56] at hx; exact hx)⟩
      · rw [eK2]
        have := (q5.eq (ea _ (by simp))).app (X := [mkK Q.length] ++ (pX l.tail).2.1.map (kox Q.length 2 0) ++ [stK Q.length 2 0])
        exact ⟨by rw [fls_out n78]; exact this.1, fun i x hx => this.2 i x (by rw [fls_out n78] at hx; exact hx)⟩
      · exact x6.eq (oeF.eqa (by simp))
    · obtain ⟨mF, i1, i2, i3⟩ := n2 q59
      rw [i1, if_neg q59]
      refine ⟨fun ms1 K1 r z => by simp at z, fun r z => ?_⟩
      cases z
      exact ⟨mF, _, _, rfl, ((oe.H.tr x3).tr g3.H).tr i3.H, i2⟩
  · have hbd := pr.2.2.2.2.2.2.2.2.2.1
    rw [pr.2.2.2.2.1.1, pe]
    refine ⟨fun ms1 K1 r z => by simp at z, fun r' z => ?_⟩
    cases z
    have go : ∀ mX, RE G mX d tt len B Q.length A1 [] l1 (some (plc r)) → OH mD mX d tt → RB G m d tt len B (B_X11_readMember_108 G FU d (nI (aK K).length) mX) Q.length r := by
      intro mX hX oX
      obtain ⟨mW, g1, g2, g3⟩ := mm_where1B FU (aK K).length mX hX (by unfold FU; omega) (by omega)
      exact ⟨mW, _, _, g1, (oe.H.tr oX).tr g3.H, g2⟩
    split
    · split
      · exact go mD pr OH.rf
      · exact go _ (pr.wr (by omega) (by omega)) (OH.e (by omega) b3)
    · exact go _ ((pr.wr (by omega) (by omega)).wr (by omega) (by omega)) ((OH.e (by omega) b3).tr (OH.e (by omega) b3))
