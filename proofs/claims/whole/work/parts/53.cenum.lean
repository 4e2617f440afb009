/-! ===== L2: the class's enumerations while they are told ===== -/
def esz (i : Nat) : Nat := match i with
  | 0 => 12 | 1 => 12 | 2 => 12 | 3 => 96 | 4 => 8 | 5 => 8 | 6 => 6 | 7 => 6 | 8 => 6 | 9 => 12 | 10 => 26
  | _ => 0
def LE (G : GG) (m : MM) (en : Nat) : Prop := ∀ i, i < 11 → gR m en i = some (en + 1 + i) ∧ G.2.2 (en + 1 + i) = esz i
theorem LE.eq {G : GG} {m m1 : MM} {en : Nat} (h : LE G m en) (e : m1.2.2 = m.2.2) : LE G m1 en := fun i hi => ⟨by rw [← (h i hi).1]; show m1.2.2 en i = m.2.2 en i; rw [e], (h i hi).2⟩
def OR (m m1 : MM) (lo hi : Nat) : Prop := ∀ a, a < lo ∨ hi ≤ a → m1.1 a = m.1 a ∧ m1.2.1 a = m.2.1 a ∧ m1.2.2 a = m.2.2 a
theorem Off.or {m m1 : MM} {l : List Nat} {lo hi : Nat} (h : Off m m1 l) (hl : ∀ a ∈ l, lo ≤ a ∧ a < hi) : OR m m1 lo hi := fun a ha => h a (fun z => by have := hl a z; omega)
theorem OR.tr {m m1 m2 : MM} {lo hi : Nat} (h : OR m m1 lo hi) (h2 : OR m1 m2 lo hi) : OR m m2 lo hi := fun a ha => by
  obtain ⟨a1, a2, a3⟩ := h a ha
  obtain ⟨b1, b2, b3⟩ := h2 a ha
  exact ⟨b1.trans a1, b2.trans a2, b3.trans a3⟩
theorem OR.I {m m1 : MM} {lo hi a : Nat} (h : OR m m1 lo hi) (ha : a < lo ∨ hi ≤ a) (k : Nat) : gI m1 a k = gI m a k := congrFun (h a ha).1 k
theorem OR.L {m m1 : MM} {lo hi a : Nat} (h : OR m m1 lo hi) (ha : a < lo ∨ hi ≤ a) (k : Nat) : gL m1 a k = gL m a k := congrFun (h a ha).2.1 k
theorem OR.R {m m1 : MM} {lo hi a : Nat} (h : OR m m1 lo hi) (ha : a < lo ∨ hi ≤ a) (k : Nat) : gR m1 a k = gR m a k := congrFun (h a ha).2.2 k
theorem ap_get {α : Type} {l : List α} {x q : α} {i : Nat} (h : (l ++ [x])[i]? = some q) : (i < l.length ∧ l[i]? = some q) ∨ (i = l.length ∧ q = x) := by
  by_cases hi : i < l.length
  · rw [List.getElem?_append_left hi] at h
    exact Or.inl ⟨hi, h⟩
  · rw [List.getElem?_append_right (by omega)] at h
    have hz : i - l.length < 1 := (List.getElem?_eq_some_iff.mp h).1
    have hz2 : i = l.length := by omega
    subst hz2
    rw [Nat.sub_self] at h
    cases h
    exact Or.inr ⟨rfl, rfl⟩
theorem get_lt {α : Type} {l : List α} {q : α} {i : Nat} (h : l[i]? = some q) : i < l.length := (List.getElem?_eq_some_iff.mp h).1
def nmM (ms : List Mem) : List Nat := (ms.filter (fun q => !decide (q.1 = 9))).map (fun q => q.2.1)
def nmL (cs : List Con) (ms : List Mem) : List Nat := cs.map (fun q => q.1) ++ nmM ms
def wks (ms : List Mem) : List Mem := ms.filter (fun q => decide (q.1 = 7))
def mkC (ms : List Mem) : Int32 := match (mks ms).reverse with
  | [] => -1
  | q :: _ => nI q.2.2.2
def CRs (m : MM) (en : Nat) (cs : List Con) : Prop := ∀ c q, cs[c]? = some q → gI m (en + 1) c = nI q.1 ∧ gI m (en + 2) c = nI q.2.1 ∧ gI m (en + 3) c = nI q.2.2 ∧ gI m (en + 10) c = 0 ∧ ∀ i, i < 8 → gI m (en + 4) (c * 8 + i) = -1
def MRs (m : MM) (en : Nat) (ms : List Mem) : Prop := ∀ i q, (mbs ms)[i]? = some q → gI m (en + 5) i = nI q.2.1 ∧ gI m (en + 6) i = if q.1 = 5 then -1 else nI q.2.2.2
def FRs (m : MM) (en : Nat) (ms : List Mem) : Prop := ∀ i q, (fls ms)[i]? = some q → gI m (en + 7) i = nI q.2.1 ∧ gI m (en + 8) i = (if q.1 = 7 then nI q.2.2.2 else -1) ∧ gI m (en + 9) i = if q.1 = 8 then nI q.2.2.1 else 0
def NRs (m : MM) (en : Nat) (l : List Nat) : Prop := ∀ i p, l[i]? = some p → gI m (en + 11) i = nI p
def EC (m : MM) (en : Nat) (cs : List Con) (ms : List Mem) : Prop := gI m en 11 = nI (nmL cs ms).length ∧ gI m en 12 = nI cs.length ∧ gI m en 13 = nI (mbs ms).length ∧ gI m en 14 = nI (fls ms).length ∧ gI m en 15 = nI (wks ms).length ∧ gI m en 16 = mkC ms ∧ gI m en 17 = 0 ∧ gI m en 18 = 0 ∧ CRs m en cs ∧ MRs m en ms ∧ FRs m en ms ∧ NRs m en (nmL cs ms)
def EB (cs : List Con) (ms : List Mem) : Prop := cs.length ≤ 12 ∧ (mbs ms).length ≤ 8 ∧ (fls ms).length ≤ 6 ∧ (∀ q ∈ cs, q.1 < 4096 ∧ q.2.1 < 1000000000 ∧ q.2.2 ≤ 1) ∧ ∀ q ∈ ms, 5 ≤ q.1 ∧ q.1 ≤ 9 ∧ q.2.1 < 4096 ∧ q.2.2.1 < 1000000000 ∧ q.2.2.2 ≤ 2000
theorem EC.kept {m m1 : MM} {en : Nat} {cs : List Con} {ms : List Mem} (h : EC m en cs ms) (o : ∀ a, en ≤ a → a < en + 12 → m1.1 a = m.1 a) : EC m1 en cs ms := by
  have g : ∀ i, i < 12 → ∀ j, gI m1 (en + i) j = gI m (en + i) j := fun i hi j => congrFun (o (en + i) (by omega) (by omega)) j
  have g0 : ∀ j, gI m1 en j = gI m en j := fun j => g 0 (by omega) j
  obtain ⟨h1, h2, h3, h4, h5, h6, h7, h8, h9, h10, h11, h12⟩ := h
  refine ⟨by rw [g0]; exact h1, by rw [g0]; exact h2, by rw [g0]; exact h3, by rw [g0]; exact h4, by rw [g0]; exact h5, by rw [g0]; exact h6, by rw [g0]; exact h7, by rw [g0]; exact h8, fun c q hq => ?_, fun i q hq => ?_, fun i q hq => ?_, fun i p hp => ?_⟩
  · obtain ⟨a1, a2, a3, a4, a5⟩ := h9 c q hq
    exact ⟨by rw [g 1 (by omega)]; exact a1, by rw [g 2 (by omega)]; exact a2, by rw [g 3 (by omega)]; exact a3, by rw [g 10 (by omega)]; exact a4, fun i hi => by rw [g 4 (by omega)]; exact a5 i hi⟩
  · obtain ⟨a1, a2⟩ := h10 i q hq
    exact ⟨by rw [g 5 (by omega)]; exact a1, by rw [g 6 (by omega)]; exact a2⟩
  · obtain ⟨a1, a2, a3⟩ := h11 i q hq
    exact ⟨by rw [g 7 (by omega)]; exact a1, by rw [g 8 (by omega)]; exact a2, by rw [g 9 (by omega)]; exact a3⟩
  · rw [g 11 (by omega)]; exact h12 i p hp
theorem nmM_len : ∀ (ms : List Mem), (∀ q ∈ ms, 5 ≤ q.1 ∧ q.1 ≤ 9) → (nmM ms).length = (mbs ms).length + (fls ms).length := by
  intro ms
  induction ms with
  | nil => intro _; rfl
  | cons q l ih =>
    intro h
    have h1 := h q (by simp)
    have h2 := ih (fun z hz => h z (by simp [hz]))
    unfold nmM mbs fls at *
    rw [List.length_map] at h2 ⊢
    rcases (show q.1 = 5 ∨ q.1 = 6 ∨ q.1 = 7 ∨ q.1 = 8 ∨ q.1 = 9 by omega) with z | z | z | z | z <;> simp [List.filter_cons, z] <;> omega
theorem EB.nm {cs : List Con} {ms : List Mem} (h : EB cs ms) : (nmL cs ms).length = cs.length + (mbs ms).length + (fls ms).length := by
  unfold nmL
  rw [List.length_append, List.length_map, nmM_len ms (fun q hq => ⟨(h.2.2.2.2 q hq).1, (h.2.2.2.2 q hq).2.1⟩)]
  omega
theorem ec_addName {G : GG} {m : MM} {en p : Nat} {l : List Nat} (hL : LE G m en) (h : NRs m en l) (h11 : gI m en 11 = nI l.length) (hl : l.length < 26) : ∃ m1, M_X1_addName G en (nI p) m = some ((), m1) ∧ m1 = sI (sI m (en + 11) l.length (nI p)) en 11 (nI (l.length + 1)) ∧ NRs m1 en (l ++ [p]) := by
  unfold M_X1_addName
  obtain ⟨r1, r2⟩ := hL 10 (by omega)
  rw [show en + 1 + 10 = en + 11 by omega] at r1 r2
  rw [nb_e r1, r2, h11, show esz 10 = 26 from rfl, if_neg (fun z => absurd ((nI_leI (by omega) (by omega)).mp z) (by omega)), ib_n hl (by omega), nI_clamp (by omega), gI_sI_ne (Or.inl (by omega)), h11, nI_1]
  refine ⟨_, rfl, rfl, fun i q hq => ?_⟩
  rw [gI_sI_ne (Or.inl (by omega))]
  rcases ap_get hq with ⟨a, b⟩ | ⟨a, b⟩
  · rw [gI_sI_ne (Or.inr (by omega))]; exact h i q b
  · rw [a, b, gI_sI_eq]
theorem ec_loop {G : GG} {en c : Nat} (hc : c < 12) : ∀ (fu i : Nat) (m : MM), LE G m en → gI m en 12 = nI c → i ≤ 8 → 8 - i < fu → ∃ m1, B_X1_addConstant_58 G fu en (nI i) m = some (true, m1) ∧ Off m m1 [en, en + 4] ∧ m1.2.2 = m.2.2 ∧ gI m1 en 12 = nI (c + 1) ∧ (∀ j, j ≠ 12 → gI m1 en j = gI m en j) ∧ ∀ j, gI m1 (en + 4) j = if c * 8 + i ≤ j ∧ j < c * 8 + 8 then -1 else gI m (en + 4) j := by
  intro fu
  induction fu with
  | zero => intro i m _ _ _ hf; exact absurd hf (by omega)
  | succ fu ih =>
    intro i m hL h12 hi hf
    rw [B_X1_addConstant_58, show (8 : Int32) = nI 8 from rfl]
    by_cases h8 : 8 ≤ i
    · rw [if_pos ((nI_leI (by omega) (by omega)).mpr h8), h12, nI_1]
      refine ⟨_, rfl, Off.sI.mono (by simp), rfl, gI_sI_eq, fun j hj => gI_sI_ne (Or.inr hj), fun j => ?_⟩
      rw [gI_sI_ne (Or.inl (by omega)), if_neg (by omega)]
    · obtain ⟨r1, r2⟩ := hL 3 (by omega)
      rw [show en + 1 + 3 = en + 4 by omega] at r1 r2
      rw [if_neg (fun z => h8 ((nI_leI (by omega) (by omega)).mp z)), nb_e r1, r2, show esz 3 = 96 from rfl, h12, pk_mul, nI_add, ib_n (by omega) (by omega), nI_clamp (by omega), nI_1]
      obtain ⟨m1, e1, e2, e3, e4, e5, e6⟩ := ih (i + 1) (sI m (en + 4) (c * 8 + i) (-1)) (hL.eq rfl) (by rw [gI_sI_ne (Or.inl (by omega))]; exact h12) (by omega) (by omega)
      refine ⟨m1, e1, (Off.sI.tr e2).mono (by simp), e3, e4, fun j hj => by rw [e5 j hj, gI_sI_ne (Or.inl (by omega))], fun j => ?_⟩
      rw [e6 j]
      by_cases hj : j = c * 8 + i
      · subst hj
        rw [gI_sI_eq, if_neg (by omega), if_pos (by omega)]
      · rw [gI_sI_ne (Or.inr hj)]
        by_cases hz : c * 8 + (i + 1) ≤ j ∧ j < c * 8 + 8
        · rw [if_pos hz, if_pos (by omega)]
        · rw [if_neg hz, if_neg (by omega)]
theorem ec_addConstant {G : GG} {m : MM} {en p : Nat} {cs : List Con} (hL : LE G m en) (h : EC m en cs []) (hc : cs.length < 12) : ∃ m1, M_X1_addConstant G en (nI p) m = some (true, m1) ∧ EC m1 en (cs ++ [(p, 0, 0)]) [] ∧ OR m m1 en (en + 12) ∧ m1.2.2 = m.2.2 := by
  obtain ⟨h1, h2, h3, h4, h5, h6, h7, h8, h9, h10, h11, h12⟩ := h
  have el : (nmL cs []).length = cs.length := by simp [nmL, nmM]
  unfold M_X1_addConstant
  obtain ⟨mA, a1, a2, a3⟩ := ec_addName (p := p) hL h12 h1 (by omega)
  rw [h2, show (12 : Int32) = nI 12 from rfl, if_pos ((nI_ltI (by omega) (by omega)).mpr hc), bd_e a1]
  rw [el] at a2
  have r0 := hL 0 (by omega)
  have r1 := hL 1 (by omega)
  have r2 := hL 2 (by omega)
  have r9 := hL 9 (by omega)
  simp only [show en + 1 + 0 = en + 1 by omega, show en + 1 + 1 = en + 2 by omega, show en + 1 + 2 = en + 3 by omega, show en + 1 + 9 = en + 10 by omega] at r0 r1 r2 r9
  have rA : mA.2.2 = m.2.2 := by rw [a2]; rfl
  have q0 : gR mA en 0 = some (en + 1) := by show mA.2.2 en 0 = _; rw [rA]; exact r0.1
  have q1 : gR mA en 1 = some (en + 2) := by show mA.2.2 en 1 = _; rw [rA]; exact r1.1
  have q2 : gR mA en 2 = some (en + 3) := by show mA.2.2 en 2 = _; rw [rA]; exact r2.1
  have q9 : gR mA en 9 = some (en + 10) := by show mA.2.2 en 9 = _; rw [rA]; exact r9.1
  have hA : gI mA en 12 = nI cs.length := by rw [a2, gI_sI_ne (Or.inr (by decide)), gI_sI_ne (Or.inl (by omega))]; exact h2
  rw [nb_e q0, r0.2, show esz 0 = 12 from rfl]
  simp only [hA, nI_clamp (show cs.length < 2 ^ 31 by omega), gR_sI]
  rw [ib_n hc (by omega), nb_e q1, r1.2]
  simp only [gI_sI_ne (show en ≠ en + 1 ∨ 12 ≠ cs.length from Or.inl (by omega)), hA, nI_clamp (show cs.length < 2 ^ 31 by omega), gR_sI]
  rw [show esz 1 = 12 from rfl, ib_n hc (by omega), nb_e q2, r2.2]
  simp only [gI_sI_ne (show en ≠ en + 1 ∨ 12 ≠ cs.length from Or.inl (by omega)), gI_sI_ne (show en ≠ en + 2 ∨ 12 ≠ cs.length from Or.inl (by omega)), hA, nI_clamp (show cs.length < 2 ^ 31 by omega), gR_sI]
  rw [show esz 2 = 12 from rfl, ib_n hc (by omega), nb_e q9, r9.2]
  simp only [gI_sI_ne (show en ≠ en + 1 ∨ 12 ≠ cs.length from Or.inl (by omega)), gI_sI_ne (show en ≠ en + 2 ∨ 12 ≠ cs.length from Or.inl (by omega)), gI_sI_ne (show en ≠ en + 3 ∨ 12 ≠ cs.length from Or.inl (by omega)), hA, nI_clamp (show cs.length < 2 ^ 31 by omega), gR_sI]
  rw [show esz 9 = 12 from rfl, ib_n hc (by omega)]
  obtain ⟨mB, eB⟩ : ∃ mB, sI (sI (sI (sI mA (en + 1) cs.length (nI p)) (en + 2) cs.length 0) (en + 3) cs.length (vp_nar .boolean 0)) (en + 10) cs.length 0 = mB := ⟨_, rfl⟩
  rw [eB]
  have rB : mB.2.2 = m.2.2 := by rw [← eB]; exact rA
  have oB : Off mA mB [en + 1, en + 2, en + 3, en + 10] := by
    rw [← eB]
    exact (((Off.sI.tr Off.sI).tr Off.sI).tr Off.sI).mono (by simp)
  have oA : Off m mA [en + 11, en] := by rw [a2]; exact (Off.sI.tr Off.sI).mono (by simp)
  have hB : gI mB en 12 = nI cs.length := by rw [oB.I (by simp)]; exact hA
  obtain ⟨mC, e1, e2, e3, e4, e5, e6⟩ := ec_loop hc FU 0 mB (hL.eq rB) hB (by omega) (by unfold FU; omega)
  rw [nI_0] at e1
  have gC : ∀ j, j ≠ 12 → gI mC en j = gI mA en j := fun j hj => by rw [e5 j hj, oB.I (by simp)]
  have gA : ∀ j, j ≠ 11 → gI mA en j = gI m en j := fun j hj => by rw [a2, gI_sI_ne (Or.inr hj), gI_sI_ne (Or.inl (by omega))]
  refine ⟨mC, e1, ⟨?_, ?_, ?_, ?_, ?_, ?_, ?_, ?_, fun c q hq => ?_, fun i q hq => by simp [mbs] at hq, fun i q hq => by simp [fls] at hq, ?_⟩, ?_, e3.trans rB⟩
  · rw [gC 11 (by decide), a2, gI_sI_eq]
    simp [nmL, nmM]
  · rw [e4, List.length_append]; rfl
  · rw [gC 13 (by decide), gA 13 (by decide)]; exact h3
  · rw [gC 14 (by decide), gA 14 (by decide)]; exact h4
  · rw [gC 15 (by decide), gA 15 (by decide)]; exact h5
  · rw [gC 16 (by decide), gA 16 (by decide)]; exact h6
  · rw [gC 17 (by decide), gA 17 (by decide)]; exact h7
  · rw [gC 18 (by decide), gA 18 (by decide)]; exact h8
  · have k1 : ∀ j, gI mC (en + 1) j = if j = cs.length then nI p else gI m (en + 1) j := fun j => by
      rw [e2.I (by simp), ← eB, a2]
      simp [gI_sI]
    have k2 : ∀ j, gI mC (en + 2) j = if j = cs.length then 0 else gI m (en + 2) j := fun j => by
      rw [e2.I (by simp), ← eB, a2]
      simp [gI_sI]
    have k3 : ∀ j, gI mC (en + 3) j = if j = cs.length then 0 else gI m (en + 3) j := fun j => by
      rw [e2.I (by simp), ← eB, a2]
      simp [gI_sI]
      rfl
    have k10 : ∀ j, gI mC (en + 10) j = if j = cs.length then 0 else gI m (en + 10) j := fun j => by
      rw [e2.I (by simp), ← eB, a2]
      simp [gI_sI]
    have k4 : ∀ j, gI mC (en + 4) j = if cs.length * 8 + 0 ≤ j ∧ j < cs.length * 8 + 8 then -1 else gI m (en + 4) j := fun j => by
      rw [e6 j, oB.I (by simp), oA.I (by simp)]
    rcases ap_get hq with ⟨a, b⟩ | ⟨a, b⟩
    · obtain ⟨b1, b2, b3, b4, b5⟩ := h9 c q b
      refine ⟨by rw [k1, if_neg (by omega)]; exact b1, by rw [k2, if_neg (by omega)]; exact b2, by rw [k3, if_neg (by omega)]; exact b3, by rw [k10, if_neg (by omega)]; exact b4, fun i hi => by rw [k4, if_neg (by omega)]; exact b5 i hi⟩
    · subst a
      subst b
      refine ⟨by rw [k1, if_pos rfl], by rw [k2, if_pos rfl]; rfl, by rw [k3, if_pos rfl]; rfl, by rw [k10, if_pos rfl], fun i hi => by rw [k4, if_pos (by omega)]⟩
  · intro i q hq
    have e : nmL (cs ++ [(p, 0, 0)]) [] = nmL cs [] ++ [p] := by simp [nmL, nmM]
    rw [e] at hq
    rw [e2.I (by simp), oB.I (by simp)]
    exact a3 i q hq
  · exact ((oA.tr oB).tr e2).or (by simp)
theorem ec_fullConstant {G : GG} {m : MM} {en p : Nat} {cs : List Con} {ms : List Mem} (h : EC m en cs ms) (hc : 12 ≤ cs.length) (hc2 : cs.length < 1000) : M_X1_addConstant G en (nI p) m = some (false, m) := by
  unfold M_X1_addConstant
  rw [h.2.1, show (12 : Int32) = nI 12 from rfl, if_neg (fun z => absurd ((nI_ltI (by omega) (by omega)).mp z) (by omega))]
