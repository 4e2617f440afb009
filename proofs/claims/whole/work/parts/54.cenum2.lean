/-! ===== L2: the class's members and fields while they are told ===== -/
theorem mbs_in {ms : List Mem} {q : Mem} (h : q.1 = 5 ∨ q.1 = 6) : mbs (ms ++ [q]) = mbs ms ++ [q] := by
  unfold mbs
  rw [List.filter_append]
  rcases h with z | z <;> simp [z]
theorem mbs_out {ms : List Mem} {q : Mem} (h : q.1 ≠ 5 ∧ q.1 ≠ 6) : mbs (ms ++ [q]) = mbs ms := by
  unfold mbs
  rw [List.filter_append]
  simp [h.1, h.2]
theorem fls_in {ms : List Mem} {q : Mem} (h : q.1 = 7 ∨ q.1 = 8) : fls (ms ++ [q]) = fls ms ++ [q] := by
  unfold fls
  rw [List.filter_append]
  rcases h with z | z <;> simp [z]
theorem fls_out {ms : List Mem} {q : Mem} (h : q.1 ≠ 7 ∧ q.1 ≠ 8) : fls (ms ++ [q]) = fls ms := by
  unfold fls
  rw [List.filter_append]
  simp [h.1, h.2]
theorem wks_in {ms : List Mem} {q : Mem} (h : q.1 = 7) : wks (ms ++ [q]) = wks ms ++ [q] := by
  unfold wks
  rw [List.filter_append]
  simp [h]
theorem wks_out {ms : List Mem} {q : Mem} (h : q.1 ≠ 7) : wks (ms ++ [q]) = wks ms := by
  unfold wks
  rw [List.filter_append]
  simp [h]
theorem mks_in {ms : List Mem} {q : Mem} (h : q.1 = 9) : mks (ms ++ [q]) = mks ms ++ [q] := by
  unfold mks
  rw [List.filter_append]
  simp [h]
theorem mks_out {ms : List Mem} {q : Mem} (h : q.1 ≠ 9) : mks (ms ++ [q]) = mks ms := by
  unfold mks
  rw [List.filter_append]
  simp [h]
theorem mkC_in {ms : List Mem} {q : Mem} (h : q.1 = 9) : mkC (ms ++ [q]) = nI q.2.2.2 := by
  unfold mkC
  rw [mks_in h, List.reverse_append]
  rfl
theorem mkC_out {ms : List Mem} {q : Mem} (h : q.1 ≠ 9) : mkC (ms ++ [q]) = mkC ms := by
  unfold mkC
  rw [mks_out h]
theorem nmL_in {cs : List Con} {ms : List Mem} {q : Mem} (h : q.1 ≠ 9) : nmL cs (ms ++ [q]) = nmL cs ms ++ [q.2.1] := by
  unfold nmL nmM
  rw [List.filter_append]
  simp [h]
theorem nmL_out {cs : List Con} {ms : List Mem} {q : Mem} (h : q.1 = 9) : nmL cs (ms ++ [q]) = nmL cs ms := by
  unfold nmL nmM
  rw [List.filter_append]
  simp [h]
theorem wks_le (ms : List Mem) : (wks ms).length ≤ (fls ms).length := by
  induction ms with
  | nil => exact Nat.le_refl _
  | cons q l ih =>
    unfold wks fls at *
    simp only [List.filter_cons]
    by_cases h : q.1 = 7
    · simp [h]; exact ih
    · by_cases h8 : q.1 = 8
      · simp [h8]; omega
      · simp [h, h8]; exact ih
theorem ec_addMember {G : GG} {m : MM} {en p tag at' : Nat} {v : Int32} {cs : List Con} {ms : List Mem} (hL : LE G m en) (h : EC m en cs ms) (hB : EB cs ms) (hc : (mbs ms).length < 8) (ht : tag = 5 ∨ tag = 6) (hv : v = if tag = 5 then -1 else nI at') : ∃ m1, M_X1_addMember G en (nI p) v m = some (true, m1) ∧ EC m1 en cs (ms ++ [(tag, p, 0, at')]) ∧ OR m m1 en (en + 12) ∧ m1.2.2 = m.2.2 := by
  obtain ⟨h1, h2, h3, h4, h5, h6, h7, h8, h9, h10, h11, h12⟩ := h
  have el := hB.nm
  have b1 := hB.1
  have b3 := hB.2.2.1
  unfold M_X1_addMember
  obtain ⟨mA, a1, a2, a3⟩ := ec_addName (p := p) hL h12 h1 (by omega)
  rw [h3, show (8 : Int32) = nI 8 from rfl, if_pos ((nI_ltI (by omega) (by omega)).mpr hc), bd_e a1]
  have r4 := hL 4 (by omega)
  have r5 := hL 5 (by omega)
  simp only [show en + 1 + 4 = en + 5 by omega, show en + 1 + 5 = en + 6 by omega] at r4 r5
  have rA : mA.2.2 = m.2.2 := by rw [a2]; rfl
  have q4 : gR mA en 4 = some (en + 5) := by show mA.2.2 en 4 = _; rw [rA]; exact r4.1
  have q5 : gR mA en 5 = some (en + 6) := by show mA.2.2 en 5 = _; rw [rA]; exact r5.1
  have hA : gI mA en 13 = nI (mbs ms).length := by rw [a2, gI_sI_ne (Or.inr (by decide)), gI_sI_ne (Or.inl (by omega))]; exact h3
  rw [nb_e q4, r4.2, show esz 4 = 8 from rfl]
  simp only [hA, nI_clamp (show (mbs ms).length < 2 ^ 31 by omega), gR_sI]
  rw [ib_n hc (by omega), nb_e q5, r5.2]
  simp only [gI_sI_ne (show en ≠ en + 5 ∨ 13 ≠ (mbs ms).length from Or.inl (by omega)), gI_sI_ne (show en ≠ en + 6 ∨ 13 ≠ (mbs ms).length from Or.inl (by omega)), hA, nI_clamp (show (mbs ms).length < 2 ^ 31 by omega)]
  rw [show esz 5 = 8 from rfl, ib_n hc (by omega), nI_1]
  have gA : ∀ j, j ≠ 11 → gI mA en j = gI m en j := fun j hj => by rw [a2, gI_sI_ne (Or.inr hj), gI_sI_ne (Or.inl (by omega))]
  have oA : Off m mA [en + 11, en] := by rw [a2]; exact (Off.sI.tr Off.sI).mono (by simp)
  obtain ⟨mB, eB⟩ : ∃ mB, sI (sI (sI mA (en + 5) (mbs ms).length (nI p)) (en + 6) (mbs ms).length v) en 13 (nI ((mbs ms).length + 1)) = mB := ⟨_, rfl⟩
  rw [eB]
  have oB : Off mA mB [en + 5, en + 6, en] := by rw [← eB]; exact ((Off.sI.tr Off.sI).tr Off.sI).mono (by simp)
  have gB : ∀ j, j ≠ 13 → gI mB en j = gI mA en j := fun j hj => by rw [← eB, gI_sI_ne (Or.inr hj), gI_sI_ne (Or.inl (by omega)), gI_sI_ne (Or.inl (by omega))]
  have o : Off m mB [en + 11, en, en + 5, en + 6] := (oA.tr oB).mono (by simp)
  have n7 : ((tag, p, 0, at') : Mem).1 ≠ 7 ∧ ((tag, p, 0, at') : Mem).1 ≠ 8 := by simp only; omega
  have n9 : ((tag, p, 0, at') : Mem).1 ≠ 9 := by simp only; omega
  refine ⟨mB, rfl, ⟨?_, ?_, ?_, ?_, ?_, ?_, ?_, ?_, fun c q hq => ?_, fun i q hq => ?_, fun i q hq => ?_, ?_⟩, o.or (by simp), by rw [← eB]; exact rA⟩
  · rw [gB 11 (by decide), a2, gI_sI_eq, nmL_in n9, List.length_append]; rfl
  · rw [gB 12 (by decide), gA 12 (by decide)]; exact h2
  · rw [← eB, gI_sI_eq, mbs_in ht, List.length_append]; rfl
  · rw [gB 14 (by decide), gA 14 (by decide), fls_out n7]; exact h4
  · rw [gB 15 (by decide), gA 15 (by decide), wks_out n7.1]; exact h5
  · rw [gB 16 (by decide), gA 16 (by decide), mkC_out n9]; exact h6
  · rw [gB 17 (by decide), gA 17 (by decide)]; exact h7
  · rw [gB 18 (by decide), gA 18 (by decide)]; exact h8
  · obtain ⟨c1, c2, c3, c4, c5⟩ := h9 c q hq
    exact ⟨by rw [o.I (by simp)]; exact c1, by rw [o.I (by simp)]; exact c2, by rw [o.I (by simp)]; exact c3, by rw [o.I (by simp)]; exact c4, fun i hi => by rw [o.I (by simp)]; exact c5 i hi⟩
  · rw [mbs_in ht] at hq
    have k5 : ∀ j, gI mB (en + 5) j = if j = (mbs ms).length then nI p else gI m (en + 5) j := fun j => by
      rw [← eB, a2]
      simp [gI_sI]
    have k6 : ∀ j, gI mB (en + 6) j = if j = (mbs ms).length then v else gI m (en + 6) j := fun j => by
      rw [← eB, a2]
      simp [gI_sI]
    rcases ap_get hq with ⟨a, b⟩ | ⟨a, b⟩
    · obtain ⟨c1, c2⟩ := h10 i q b
      exact ⟨by rw [k5, if_neg (by omega)]; exact c1, by rw [k6, if_neg (by omega)]; exact c2⟩
    · subst a
      subst b
      exact ⟨by rw [k5, if_pos rfl], by rw [k6, if_pos rfl, hv]⟩
  · rw [fls_out n7] at hq
    obtain ⟨c1, c2, c3⟩ := h11 i q hq
    exact ⟨by rw [o.I (by simp)]; exact c1, by rw [o.I (by simp)]; exact c2, by rw [o.I (by simp)]; exact c3⟩
  · rw [nmL_in n9]
    intro i q hq
    rw [oB.I (by simp)]
    exact a3 i q hq
theorem ec_fullMember {G : GG} {m : MM} {en p : Nat} {v : Int32} {cs : List Con} {ms : List Mem} (h : EC m en cs ms) (hB : EB cs ms) (hc : ¬ (mbs ms).length < 8) : M_X1_addMember G en (nI p) v m = some (false, m) := by
  have b2 := hB.2.1
  unfold M_X1_addMember
  rw [h.2.2.1, show (8 : Int32) = nI 8 from rfl, if_neg (fun z => absurd ((nI_ltI (by omega) (by omega)).mp z) (by omega))]
theorem ec_addField {G : GG} {m : MM} {en p tag at' : Nat} {v : Int32} {cs : List Con} {ms : List Mem} (hL : LE G m en) (h : EC m en cs ms) (hB : EB cs ms) (hc : (fls ms).length < 6) (ht : tag = 7 ∨ tag = 8) (hat : at' ≤ 2000) (hv : v = if tag = 7 then nI at' else -1) : ∃ m1, M_X1_addField G en (nI p) v m = some (true, m1) ∧ EC m1 en cs (ms ++ [(tag, p, 0, at')]) ∧ OR m m1 en (en + 12) ∧ m1.2.2 = m.2.2 := by
  obtain ⟨h1, h2, h3, h4, h5, h6, h7, h8, h9, h10, h11, h12⟩ := h
  have el := hB.nm
  have b1 := hB.1
  have b2 := hB.2.1
  have hw := wks_le ms
  unfold M_X1_addField
  obtain ⟨mA, a1, a2, a3⟩ := ec_addName (p := p) hL h12 h1 (by omega)
  rw [h4, show (6 : Int32) = nI 6 from rfl, if_pos ((nI_ltI (by omega) (by omega)).mpr hc), bd_e a1]
  have r6 := hL 6 (by omega)
  have r7 := hL 7 (by omega)
  have r8 := hL 8 (by omega)
  simp only [show en + 1 + 6 = en + 7 by omega, show en + 1 + 7 = en + 8 by omega, show en + 1 + 8 = en + 9 by omega] at r6 r7 r8
  have rA : mA.2.2 = m.2.2 := by rw [a2]; rfl
  have q6 : gR mA en 6 = some (en + 7) := by show mA.2.2 en 6 = _; rw [rA]; exact r6.1
  have q7 : gR mA en 7 = some (en + 8) := by show mA.2.2 en 7 = _; rw [rA]; exact r7.1
  have q8 : gR mA en 8 = some (en + 9) := by show mA.2.2 en 8 = _; rw [rA]; exact r8.1
  have gA : ∀ j, j ≠ 11 → gI mA en j = gI m en j := fun j hj => by rw [a2, gI_sI_ne (Or.inr hj), gI_sI_ne (Or.inl (by omega))]
  have hA : gI mA en 14 = nI (fls ms).length := by rw [gA 14 (by decide)]; exact h4
  have hA5 : gI mA en 15 = nI (wks ms).length := by rw [gA 15 (by decide)]; exact h5
  rw [nb_e q6, r6.2, show esz 6 = 6 from rfl]
  simp only [hA, nI_clamp (show (fls ms).length < 2 ^ 31 by omega), gR_sI]
  rw [ib_n hc (by omega), nb_e q7, r7.2]
  simp only [gI_sI_ne (show en ≠ en + 7 ∨ 14 ≠ (fls ms).length from Or.inl (by omega)), hA, nI_clamp (show (fls ms).length < 2 ^ 31 by omega)]
  rw [show esz 7 = 6 from rfl, ib_n hc (by omega), nb_e q8, r8.2]
  simp only [gI_sI_ne (show en ≠ en + 7 ∨ 14 ≠ (fls ms).length from Or.inl (by omega)), gI_sI_ne (show en ≠ en + 8 ∨ 14 ≠ (fls ms).length from Or.inl (by omega)), gI_sI_ne (show en ≠ en + 9 ∨ 14 ≠ (fls ms).length from Or.inl (by omega)), hA, nI_clamp (show (fls ms).length < 2 ^ 31 by omega)]
  rw [show esz 8 = 6 from rfl, ib_n hc (by omega), nI_1]
  simp only [gI_sI_ne (show en ≠ en ∨ 15 ≠ 14 from Or.inr (by decide)), gI_sI_ne (show en ≠ en + 7 ∨ 15 ≠ (fls ms).length from Or.inl (by omega)), gI_sI_ne (show en ≠ en + 8 ∨ 15 ≠ (fls ms).length from Or.inl (by omega)), gI_sI_ne (show en ≠ en + 9 ∨ 15 ≠ (fls ms).length from Or.inl (by omega)), hA5, nI_1]
  have oA : Off m mA [en + 11, en] := by rw [a2]; exact (Off.sI.tr Off.sI).mono (by simp)
  obtain ⟨mB, eB⟩ : ∃ mB, sI (sI (sI (sI mA (en + 7) (fls ms).length (nI p)) (en + 8) (fls ms).length v) (en + 9) (fls ms).length 0) en 14 (nI ((fls ms).length + 1)) = mB := ⟨_, rfl⟩
  rw [eB]
  have oB : Off mA mB [en + 7, en + 8, en + 9, en] := by rw [← eB]; exact (((Off.sI.tr Off.sI).tr Off.sI).tr Off.sI).mono (by simp)
  have gB : ∀ j, j ≠ 14 → gI mB en j = gI mA en j := fun j hj => by rw [← eB, gI_sI_ne (Or.inr hj), gI_sI_ne (Or.inl (by omega)), gI_sI_ne (Or.inl (by omega)), gI_sI_ne (Or.inl (by omega))]
  have n5 : ((tag, p, 0, at') : Mem).1 ≠ 5 ∧ ((tag, p, 0, at') : Mem).1 ≠ 6 := by simp only; omega
  have n9 : ((tag, p, 0, at') : Mem).1 ≠ 9 := by simp only; omega
  -- with or without one more that is worked out
  have fin : ∀ mC, Off mB mC [en] → mC.2.2 = mB.2.2 → (∀ j, j ≠ 15 → gI mC en j = gI mB en j) → gI mC en 15 = nI (wks (ms ++ [(tag, p, 0, at')])).length → EC mC en cs (ms ++ [(tag, p, 0, at')]) ∧ OR m mC en (en + 12) ∧ mC.2.2 = m.2.2 := by
    intro mC oC rC gC h15
    have o : Off m mC [en + 11, en, en + 7, en + 8, en + 9] := ((oA.tr oB).tr oC).mono (by simp)
    refine ⟨⟨?_, ?_, ?_, ?_, h15, ?_, ?_, ?_, fun c q hq => ?_, fun i q hq => ?_, fun i q hq => ?_, ?_⟩, o.or (by simp), by rw [rC, ← eB]; exact rA⟩
    · rw [gC 11 (by decide), gB 11 (by decide), a2, gI_sI_eq, nmL_in n9, List.length_append]; rfl
    · rw [gC 12 (by decide), gB 12 (by decide), gA 12 (by decide)]; exact h2
    · rw [gC 13 (by decide), gB 13 (by decide), gA 13 (by decide), mbs_out n5]; exact h3
    · rw [gC 14 (by decide), ← eB, gI_sI_eq, fls_in ht, List.length_append]; rfl
    · rw [gC 16 (by decide), gB 16 (by decide), gA 16 (by decide), mkC_out n9]; exact h6
    · rw [gC 17 (by decide), gB 17 (by decide), gA 17 (by decide)]; exact h7
    · rw [gC 18 (by decide), gB 18 (by decide), gA 18 (by decide)]; exact h8
    · obtain ⟨c1, c2, c3, c4, c5⟩ := h9 c q hq
      exact ⟨by rw [o.I (by simp)]; exact c1, by rw [o.I (by simp)]; exact c2, by rw [o.I (by simp)]; exact c3, by rw [o.I (by simp)]; exact c4, fun i hi => by rw [o.I (by simp)]; exact c5 i hi⟩
    · rw [mbs_out n5] at hq
      obtain ⟨c1, c2⟩ := h10 i q hq
      exact ⟨by rw [o.I (by simp)]; exact c1, by rw [o.I (by simp)]; exact c2⟩
    · rw [fls_in ht] at hq
      have k7 : ∀ j, gI mC (en + 7) j = if j = (fls ms).length then nI p else gI m (en + 7) j := fun j => by
        rw [oC.I (by simp), ← eB, a2]
        simp [gI_sI]
      have k8 : ∀ j, gI mC (en + 8) j = if j = (fls ms).length then v else gI m (en + 8) j := fun j => by
        rw [oC.I (by simp), ← eB, a2]
        simp [gI_sI]
      have k9 : ∀ j, gI mC (en + 9) j = if j = (fls ms).length then 0 else gI m (en + 9) j := fun j => by
        rw [oC.I (by simp), ← eB, a2]
        simp [gI_sI]
      rcases ap_get hq with ⟨a, b⟩ | ⟨a, b⟩
      · obtain ⟨c1, c2, c3⟩ := h11 i q b
        exact ⟨by rw [k7, if_neg (by omega)]; exact c1, by rw [k8, if_neg (by omega)]; exact c2, by rw [k9, if_neg (by omega)]; exact c3⟩
      · subst a
        subst b
        exact ⟨by rw [k7, if_pos rfl], by rw [k8, if_pos rfl, hv], by rw [k9, if_pos rfl]; simp; exact fun _ => rfl⟩
    · rw [nmL_in n9]
      intro i q hq
      rw [oC.I (by simp), oB.I (by simp)]
      exact a3 i q hq
  have h15B : gI mB en 15 = nI (wks ms).length := by rw [gB 15 (by decide), hA5]
  by_cases h7 : tag = 7
  · have hv7 : ¬ v = -1 := by
      rw [hv, if_pos h7]
      exact fun z => nI_pos (show at' < 2 ^ 31 by omega) (by rw [z]; decide)
    rw [if_neg hv7]
    refine ⟨_, rfl, fin _ Off.sI rfl (fun j hj => gI_sI_ne (Or.inr hj)) ?_⟩
    rw [gI_sI_eq, wks_in (show ((tag, p, 0, at') : Mem).1 = 7 from h7), List.length_append]
    rfl
  · rw [if_pos (by rw [hv, if_neg h7])]
    refine ⟨_, rfl, fin _ Off.rf rfl (fun j hj => rfl) ?_⟩
    rw [h15B, wks_out (show ((tag, p, 0, at') : Mem).1 ≠ 7 from h7)]
theorem ec_fullField {G : GG} {m : MM} {en p : Nat} {v : Int32} {cs : List Con} {ms : List Mem} (h : EC m en cs ms) (hB : EB cs ms) (hc : ¬ (fls ms).length < 6) : M_X1_addField G en (nI p) v m = some (false, m) := by
  have b2 := hB.2.2.1
  unfold M_X1_addField
  rw [h.2.2.2.1, show (6 : Int32) = nI 6 from rfl, if_neg (fun z => absurd ((nI_ltI (by omega) (by omega)).mp z) (by omega))]
