/-! ===== L2: the class's reading of an exp, along the machine ===== -/
def ntF (F q : Nat × Nat) : Nat × Nat := if F.1 = 0 ∨ q.2 < F.2 ∨ (q.2 = F.2 ∧ q.1 < F.1) then q else F
def FS (m : MM) (fa : Nat) (F : Nat × Nat) : Prop := gI m fa 0 = nI F.1 ∧ gI m fa 1 = nI F.2 ∧ F.1 < 100 ∧ F.2 < 100000
theorem fs_note {G : GG} {m : MM} {fa : Nat} {F : Nat × Nat} {k p : Nat} (h : FS m fa F) (hk : k < 100) (hp : p < 100000) : ∃ m1, M_X3_note G fa (nI k) (nI p) m = some ((), m1) ∧ FS m1 fa (ntF F (k, p)) ∧ Off m m1 [fa] ∧ m1.2.2 = m.2.2 := by
  obtain ⟨h1, h2, h3, h4⟩ := h
  have new : FS (sI (sI m fa 0 (nI k)) fa 1 (nI p)) fa (k, p) := ⟨by rw [gI_sI_ne (Or.inr (by decide)), gI_sI_eq], gI_sI_eq, hk, hp⟩
  have off : Off m (sI (sI m fa 0 (nI k)) fa 1 (nI p)) [fa] := Off.sI.tr1 Off.sI
  unfold M_X3_note ntF
  rw [h1, h2, show (0 : Int32) = nI 0 from nI_0.symm]
  by_cases q1 : F.1 = 0
  · rw [if_pos (by rw [q1]), if_pos (Or.inl q1)]
    exact ⟨_, rfl, new, off, rfl⟩
  rw [if_neg (fun z => q1 ((nI_eq (by omega) (by omega)).mp z))]
  by_cases q2 : p < F.2
  · rw [if_pos ((nI_ltI (by omega) (by omega)).mpr q2), if_pos (Or.inr (Or.inl q2))]
    exact ⟨_, rfl, new, off, rfl⟩
  rw [if_neg (fun z => q2 ((nI_ltI (by omega) (by omega)).mp z))]
  by_cases q3 : p = F.2
  · rw [if_pos (by rw [q3])]
    by_cases q4 : F.1 ≤ k
    · rw [if_pos ((nI_leI (by omega) (by omega)).mpr q4), if_neg (by simp only; omega)]
      exact ⟨_, rfl, ⟨h1, h2, h3, h4⟩, Off.rf, rfl⟩
    · rw [if_neg (fun z => q4 ((nI_leI (by omega) (by omega)).mp z)), if_pos (Or.inr (Or.inr ⟨q3, by simp only; omega⟩))]
      exact ⟨_, rfl, new, off, rfl⟩
  · rw [if_neg (fun z => q3 ((nI_eq (by omega) (by omega)).mp z)), if_neg (by simp only; omega)]
    exact ⟨_, rfl, ⟨h1, h2, h3, h4⟩, Off.rf, rfl⟩
theorem FS.kept {m m1 : MM} {fa : Nat} {F : Nat × Nat} {l : List Nat} (h : FS m fa F) (o : Off m m1 l) (h1 : fa ∉ l) : FS m1 fa F := ⟨by rw [o.I h1]; exact h.1, by rw [o.I h1]; exact h.2.1, h.2.2⟩
/-- a word that has no meaning where it stands -/
def badW (so : Nat) (o : Op) : Prop := (o.1 = 4 ∧ so ≠ 2) ∨ (o.1 = 5 ∧ so ≠ 0) ∨ (o.1 = 6 ∧ so = 1)
def badB (so : Nat) (o : Op) : Bool := (decide (o.1 = 4) && decide (so ≠ 2)) || (decide (o.1 = 5) && decide (so ≠ 0)) || (decide (o.1 = 6) && decide (so = 1))
def nts (so : Nat) (F : Nat × Nat) : List Op → Nat × Nat
  | [] => F
  | o :: l => nts so (if badB so o = true then ntF F (6, o.2.1) else F) l
theorem nts_app {so : Nat} : ∀ (a b : List Op) (F : Nat × Nat), nts so F (a ++ b) = nts so (nts so F a) b := by
  intro a
  induction a with
  | nil => intro b F; rfl
  | cons o l ih => intro b F; simp only [List.cons_append, nts]; exact ih b _
theorem nts_bop {so : Nat} : ∀ (l : List Nat) (F : Nat × Nat), (∀ y ∈ l, 7 ≤ y) → nts so F (l.map bop) = F := by
  intro l
  induction l with
  | nil => intro F _; rfl
  | cons y l ih =>
    intro F h
    have hy := h y (by simp)
    simp only [List.map_cons, nts]
    rw [if_neg (by simp [badB, bop, show y ≠ 4 by omega, show y ≠ 5 by omega, show y ≠ 6 by omega])]
    exact ih F (fun z hz => h z (by simp [hz]))
/-- a list of tokens ends with its end, and has no other -/
def EL (L : List Tok) : Prop := ∀ (k : Nat) (c : Tok), L[k]? = some c → c.1 ≠ 130 → k + 1 < L.length
/-- the shape of what waits -/
def SH (st : List Nat) (de sg : Nat) : Prop := okS 3 st ∧ (∀ y ∈ st, y = 0 ∨ (7 ≤ y ∧ y ≤ 11)) ∧ de = opn st + nng st ∧ de ≤ 8 ∧ sg ≤ 20
theorem SH.len {st : List Nat} {de sg : Nat} (h : SH st de sg) : st.length ≤ de + 2 + 2 * opn st := by
  have := okS_len st 3 (by omega) (by omega) h.1
  have := h.2.2.1
  omega
theorem SH.l26 {st : List Nat} {de sg : Nat} (h : SH st de sg) : st.length ≤ 26 := by
  have := h.len
  have := h.2.2.1
  have := h.2.2.2.1
  omega
theorem SH.l12 {st : List Nat} {de sg : Nat} (h : SH st de sg) : ∀ y ∈ st, y < 12 := fun y hy => by
  rcases h.2.1 y hy with q | q <;> omega
theorem SH.pop {st : List Nat} {de sg r : Nat} (h : SH st de sg) (hr : 0 < r) : SH (popG r st).2 (de - nng (popG r st).1) sg ∧ nng (popG r st).1 ≤ de ∧ (∀ y ∈ (popG r st).1, 7 ≤ y ∧ y < 12) := by
  obtain ⟨h1, h2, h3, h4, h5⟩ := h
  have ha := popG_app st r
  have ho : opn st = opn (popG r st).2 := by
    have := opn_app (popG r st).1 (popG r st).2
    rw [ha, popG_opn st r hr] at this
    omega
  have hn : nng st = nng (popG r st).1 + nng (popG r st).2 := by
    have := nng_app (popG r st).1 (popG r st).2
    rw [ha] at this
    omega
  have hm : ∀ y ∈ (popG r st).2, y ∈ st := fun y hy => by rw [← ha]; exact List.mem_append.mpr (Or.inr hy)
  have hm1 : ∀ y ∈ (popG r st).1, y ∈ st := fun y hy => by rw [← ha]; exact List.mem_append.mpr (Or.inl hy)
  refine ⟨⟨okS_pop st r 3 hr h1, fun y hy => h2 y (hm y hy), by omega, by omega, h5⟩, by omega, fun y hy => ?_⟩
  rcases h2 y (hm1 y hy) with q | q
  · exfalso
    have : 0 < opn (popG r st).1 := (opn_mem _).mp (by rw [← q]; exact hy)
    rw [popG_opn st r hr] at this
    omega
  · omega
/-- where the class stands in an exp -/
def EX (G : GG) (m : MM) (x tk pg fa so : Nat) (L : List Tok) (k : Nat) (st : List Nat) (de sg : Nat) (out : List Op) (C0 : List Int64) (F0 : Nat × Nat) : Prop := XE G m x tk pg fa so st (opn st) de sg (C0 ++ out.map encOp) ∧ TK G m tk L k ∧ FS m fa (nts so F0 out) ∧ SH st de sg ∧ C0.length + out.length + st.length + 1 ≤ k ∧ k < L.length
theorem cx_push {G : GG} {m : MM} {x tk pg fa so op ne sg y : Nat} {st : List Nat} {C : List Int64} (hD : DX x tk pg fa) (h : XE G m x tk pg fa so st op ne sg C) (hl : st.length < 26) : ∃ m1, M_X2_pushWaiting G x (opI y) m = some ((), m1) ∧ XE G m1 x tk pg fa so (y :: st) op ne sg C ∧ Off m m1 [x, x + 1] ∧ m1.2.2 = m.2.2 := by
  obtain ⟨n0, d1, d2, d3, d4⟩ := hD
  obtain ⟨e0, e1, e2, e3, e4, e5, e6, e7, e8, e9, e10, e11⟩ := h
  unfold M_X2_pushWaiting
  rw [e6, if_neg (nI_pos (by omega)), nb_e e0, e1, if_neg (fun z => absurd ((nI_leI (by omega) (by omega)).mp z) (by omega)), ib_n hl (by omega), nI_clamp (by omega), gI_sI_ne (Or.inl (by omega)), e6, nI_1]
  have o : Off m (sI (sI m (x + 1) st.length (opI y)) x 5 (nI (st.length + 1))) [x, x + 1] := (Off.sI.tr Off.sI).mono (by simp)
  refine ⟨_, rfl, ⟨e0, e1, e2, e3, e4, ?_, by rw [gI_sI_eq]; rfl, ⟨?_, ?_⟩, ?_, ?_, ?_, e11.kept o (by simp; omega) (by simp; omega)⟩, o, rfl⟩
  · rw [gI_sI_ne (Or.inr (by decide)), gI_sI_ne (Or.inl (by omega))]; exact e5
  · rw [gI_sI_ne (Or.inl (by omega)), gI_sI_eq]
  · exact e7.kept (fun j hj => by rw [gI_sI_ne (Or.inl (by omega)), gI_sI_ne (Or.inr (by omega))])
  · rw [gI_sI_ne (Or.inr (by decide)), gI_sI_ne (Or.inl (by omega))]; exact e8
  · rw [gI_sI_ne (Or.inr (by decide)), gI_sI_ne (Or.inl (by omega))]; exact e9
  · rw [gI_sI_ne (Or.inr (by decide)), gI_sI_ne (Or.inl (by omega))]; exact e10
theorem XE.kept {G : GG} {m m1 : MM} {x tk pg fa so op ne sg : Nat} {st : List Nat} {C : List Int64} {l : List Nat} (h : XE G m x tk pg fa so st op ne sg C) (o : Off m m1 l) (h1 : x ∉ l) (h2 : x + 1 ∉ l) (h3 : pg ∉ l) (h4 : pg + 3 ∉ l) : XE G m1 x tk pg fa so st op ne sg C := by
  obtain ⟨e0, e1, e2, e3, e4, e5, e6, e7, e8, e9, e10, e11⟩ := h
  exact ⟨by rw [o.R h1]; exact e0, e1, by rw [o.R h1]; exact e2, by rw [o.R h1]; exact e3, by rw [o.R h1]; exact e4, by rw [o.I h1]; exact e5, by rw [o.I h1]; exact e6, e7.kept (fun j _ => o.I h2 j), by rw [o.I h1]; exact e8, by rw [o.I h1]; exact e9, by rw [o.I h1]; exact e10, e11.kept o h3 h4⟩
theorem drop_cons {L : List Tok} {k : Nat} {c : Tok} (h : L[k]? = some c) : L.drop k = c :: L.drop (k + 1) := by
  have hk := (List.getElem?_eq_some_iff.mp h).1
  rw [List.drop_eq_getElem_cons hk]
  congr 1
  exact Option.some.inj ((List.getElem?_eq_getElem hk).symm.trans h)
theorem k_ne {a : Nat} (n : Nat) (v : Int32) (e : v = nI n) (ha : a < 2 ^ 31) (hn : n < 2 ^ 31) (h : a ≠ n) : ¬ nI a = v := fun z => h ((nI_eq ha hn).mp (z.trans e))
/-- the class's loop over what opens -/
theorem cx_nest {G : GG} {x tk pg fa so sg : Nat} {L : List Tok} {out : List Op} {C0 : List Int64} {F0 : Nat × Nat} (hD : DX x tk pg fa) (hE : EL L) : ∀ (fu i k de : Nat) (st : List Nat) (m : MM), EX G m x tk pg fa so L k st de sg out C0 F0 → i ≤ de → 9 - i < fu → ∃ (b : Bool) (m1 : MM) (k1 de1 : Nat) (st1 : List Nat), B_X2_readNesting_2 G fu x (nI i) m = some (b, m1) ∧ EX G m1 x tk pg fa so L k1 st1 de1 sg out C0 F0 ∧ Off m m1 [x, x + 1, tk] ∧ m1.2.2 = m.2.2 ∧ k ≤ k1 ∧ (b = true → pE (0, 0, st, de, sg, out) (L.drop k) = pE (0, 0, st1, de1, sg, out) (L.drop k1) ∧ ∀ c, L[k1]? = some c → c.1 ≠ 40 ∧ c.1 ≠ 45) ∧ (b = false → pE (0, 0, st, de, sg, out) (L.drop k) = (false, out, L.drop k1)) := by
  intro fu
  induction fu with
  | zero => intro i k de st m _ _ hf; exact absurd hf (by omega)
  | succ fu ih =>
    intro i k de st m h hi hf
    have h9 := h
    obtain ⟨hX, hT, hF, hS, hB, hk⟩ := h
    have hX0 := hX
    obtain ⟨e0, e1, e2, e3, e4, e5, e6, e7, e8, e9, e10, e11⟩ := hX
    have hde := hS.2.2.2.1
    obtain ⟨n0, d1, d2, d3, d4⟩ := id hD
    obtain ⟨c, hc⟩ : ∃ c, L[k]? = some c := ⟨L[k], List.getElem?_eq_getElem hk⟩
    obtain ⟨c3, c4, c5, b1, b2, b3⟩ := tk_cur hT hc
    rw [B_X2_readNesting_2, show (8 : Int32) = nI 8 from rfl, if_neg (fun z => absurd ((nI_ltI (by omega) (by omega)).mp z) (by omega)), nb_e e2, c3]
    by_cases hop : c.1 = 40 ∨ c.1 = 45
    · have hgo : B_X2_readNesting_32 G (B_X2_readNesting_2 G fu) x (nI i) m = (if (nI c.1) = 40 then B_X2_readNesting_32 G (B_X2_readNesting_2 G fu) x (nI i) m else if (nI c.1) = 45 then B_X2_readNesting_32 G (B_X2_readNesting_2 G fu) x (nI i) m else some (true, m)) := by
        rcases hop with q | q
        · rw [if_pos (by rw [q]; rfl)]
        · rw [if_neg (by rw [q]; decide), if_pos (by rw [q]; rfl)]
      rw [← hgo]
      unfold B_X2_readNesting_32
      rw [e9, show (8 : Int32) = nI 8 from rfl]
      by_cases h8 : de < 8
      · -- one more level
        have hk1 := hE k c hc (by rcases hop with q | q <;> omega)
        rw [if_pos ((nI_ltI (by omega) (by omega)).mpr h8), nI_1]
        let y : Nat := if c.1 = 40 then 0 else 7
        have hy : opI y = if c.1 = 40 then -1 else 7 := by
          show opI (if c.1 = 40 then 0 else 7) = _
          split <;> rfl
        -- the memory behind the counters
        let mA : MM := if c.1 = 40 then sI (sI m x 7 (nI (de + 1))) x 6 (nI (opn st + 1)) else sI m x 7 (nI (de + 1))
        have oA : Off m mA [x] := by
          show Off m (if c.1 = 40 then _ else _) [x]
          split
          · exact Off.sI.tr1 Off.sI
          · exact Off.sI
        have rA : mA.2.2 = m.2.2 := by
          show (if c.1 = 40 then sI (sI m x 7 (nI (de + 1))) x 6 (nI (opn st + 1)) else sI m x 7 (nI (de + 1))).2.2 = m.2.2
          split <;> rfl
        have hXA : XE G mA x tk pg fa so st (opn st + if c.1 = 40 then 1 else 0) (de + 1) sg (C0 ++ out.map encOp) := by
          show XE G (if c.1 = 40 then _ else _) x tk pg fa so st _ _ sg _
          split
          · have o2 : Off m (sI (sI m x 7 (nI (de + 1))) x 6 (nI (opn st + 1))) [x] := Off.sI.tr1 Off.sI
            exact ⟨e0, e1, e2, e3, e4, by rw [gI_sI_ne (Or.inr (by decide)), gI_sI_ne (Or.inr (by decide))]; exact e5, by rw [gI_sI_ne (Or.inr (by decide)), gI_sI_ne (Or.inr (by decide))]; exact e6, e7.kept (fun j _ => by rw [gI_sI_ne (Or.inl (by omega)), gI_sI_ne (Or.inl (by omega))]), by rw [gI_sI_eq], by rw [gI_sI_ne (Or.inr (by decide)), gI_sI_eq], by rw [gI_sI_ne (Or.inr (by decide)), gI_sI_ne (Or.inr (by decide))]; exact e10, e11.kept o2 (by simp; omega) (by simp; omega)⟩
          · have o2 : Off m (sI m x 7 (nI (de + 1))) [x] := Off.sI
            exact ⟨e0, e1, e2, e3, e4, by rw [gI_sI_ne (Or.inr (by decide))]; exact e5, by rw [gI_sI_ne (Or.inr (by decide))]; exact e6, e7.kept (fun j _ => by rw [gI_sI_ne (Or.inl (by omega))]), by rw [gI_sI_ne (Or.inr (by decide))]; exact e8, by rw [gI_sI_eq], by rw [gI_sI_ne (Or.inr (by decide))]; exact e10, e11.kept o2 (by simp; omega) (by simp; omega)⟩
        have hTA : TK G mA tk L k := hT.kept oA (by simp; omega) (by simp; omega)
        have hlen : st.length < 26 := by
          have := hS.len
          have := hS.2.2.1
          omega
        obtain ⟨mB, f1, f2, f3, f4⟩ := cx_push hD hXA (y := y) hlen
        have hTB : TK G mB tk L k := hTA.kept f3 (by simp; omega) (by simp; omega)
        obtain ⟨mC, g1, g2, g3, g5⟩ := tk_advance hTB hk1
        have g4 : gR mB x 1 = some tk := by show mB.2.2 x 1 = _; rw [f4]; exact hXA.2.2.1
        have step : (nb (gR (sI m x 7 (nI (de + 1))) x 1) fun b_12 => if (gI (sI m x 7 (nI (de + 1))) b_12 3) = 40 then B_X2_readNesting_75 G (B_X2_readNesting_2 G fu) x (nI i) (sI (sI m x 7 (nI (de + 1))) x 6 ((gI (sI m x 7 (nI (de + 1))) x 6) + 1)) else B_X2_readNesting_75 G (B_X2_readNesting_2 G fu) x (nI i) (sI m x 7 (nI (de + 1)))) = B_X2_readNesting_2 G fu x (nI (i + 1)) mC := by
          rw [nb_e (show gR (sI m x 7 (nI (de + 1))) x 1 = some tk from e2), gI_sI_ne (Or.inl (by omega)), c3, gI_sI_ne (Or.inr (by decide)), e8, nI_1]
          have c3A : gI mA tk 3 = nI c.1 := by rw [oA.I (by simp; omega)]; exact c3
          have tail : B_X2_readNesting_75 G (B_X2_readNesting_2 G fu) x (nI i) mA = B_X2_readNesting_2 G fu x (nI (i + 1)) mC := by
            unfold B_X2_readNesting_75
            rw [nb_e hXA.2.2.1, c3A]
            by_cases q : c.1 = 40
            · rw [if_pos (by rw [q]; rfl)]
              rw [hy, if_pos q] at f1
              rw [bd_e f1, nb_e g4, bd_e g1, nI_1]
            · rw [if_neg (k_ne 40 40 rfl (by omega) (by omega) q)]
              rw [hy, if_neg q] at f1
              rw [bd_e f1, nb_e g4, bd_e g1, nI_1]
          by_cases q : c.1 = 40
          · rw [if_pos (by rw [q]; rfl), ← tail]
            show _ = B_X2_readNesting_75 G _ x (nI i) (if c.1 = 40 then _ else _)
            rw [if_pos q]
          · rw [if_neg (k_ne 40 40 rfl (by omega) (by omega) q), ← tail]
            show _ = B_X2_readNesting_75 G _ x (nI i) (if c.1 = 40 then _ else _)
            rw [if_neg q]
        rw [step]
        have hoff : Off m mC [x, x + 1, tk] := ((oA.tr f3).tr g3).mono (by simp)
        have hSN : SH (y :: st) (de + 1) sg := by
          obtain ⟨s1, s2, s3, s4, s5⟩ := hS
          by_cases q : c.1 = 40
          · have ey : y = 0 := by show (if c.1 = 40 then 0 else 7) = 0; rw [if_pos q]
            rw [ey]
            exact ⟨by simp [okS, s1], fun z hz => by rcases List.mem_cons.mp hz with z1 | z1; exact Or.inl z1; exact s2 z z1, by simp [opn, nng]; omega, by omega, s5⟩
          · have ey : y = 7 := by show (if c.1 = 40 then 0 else 7) = 7; rw [if_neg q]
            rw [ey]
            exact ⟨by simp [okS, s1], fun z hz => by rcases List.mem_cons.mp hz with z1 | z1; exact Or.inr (by omega); exact s2 z z1, by simp [opn, nng]; omega, by omega, s5⟩
        have hEX : EX G mC x tk pg fa so L (k + 1) (y :: st) (de + 1) sg out C0 F0 := by
          have hXC : XE G mC x tk pg fa so (y :: st) (opn st + if c.1 = 40 then 1 else 0) (de + 1) sg (C0 ++ out.map encOp) := f2.kept g3 (by simp; omega) (by simp; omega) (by simp; omega) (by simp; omega)
          have eo : opn (y :: st) = opn st + if c.1 = 40 then 1 else 0 := by
            show (if (if c.1 = 40 then 0 else 7) = 0 then 1 else 0) + opn st = _
            by_cases q : c.1 = 40 <;> simp [q] <;> omega
          rw [← eo] at hXC
          exact ⟨hXC, g2, hF.kept hoff (by simp; omega), hSN, by rw [List.length_cons]; omega, hk1⟩
        obtain ⟨b, m1, k1, de1, st1, r1, r2, r3, r3b, r4, r5, r6⟩ := ih (i + 1) (k + 1) (de + 1) (y :: st) mC hEX (by omega) (by omega)
        have hgo2 : pE (0, 0, st, de, sg, out) (L.drop k) = pE (0, 0, y :: st, de + 1, sg, out) (L.drop (k + 1)) := by
          rw [drop_cons hc]
          refine pE_go ?_
          show stp0 st de sg out c = _
          unfold stp0
          rw [if_pos hop, if_neg (by omega)]
        have rm : mC.2.2 = m.2.2 := by rw [g5, f4, rA]
        exact ⟨b, m1, k1, de1, st1, r1, r2, hoff.tr1 r3, r3b.trans rm, by omega, fun q => ⟨by rw [hgo2]; exact (r5 q).1, (r5 q).2⟩, fun q => by rw [hgo2]; exact r6 q⟩
      · rw [if_neg (fun z => h8 ((nI_ltI (by omega) (by omega)).mp z))]
        refine ⟨false, m, k, de, st, rfl, h9, Off.rf, rfl, Nat.le_refl _, (fun q => by cases q), fun _ => ?_⟩
        rw [drop_cons hc]
        refine pE_end (q := (false, out)) ?_
        show stp0 st de sg out c = _
        unfold stp0
        rw [if_pos hop, if_pos (by omega)]
    · rw [if_neg (k_ne 40 40 rfl (by omega) (by omega) (fun z => hop (Or.inl z))), if_neg (k_ne 45 45 rfl (by omega) (by omega) (fun z => hop (Or.inr z)))]
      refine ⟨true, m, k, de, st, rfl, h9, Off.rf, rfl, Nat.le_refl _, fun _ => ⟨rfl, fun c' hc' => ?_⟩, (fun q => by cases q)⟩
      cases hc.symm.trans hc'
      exact ⟨fun z => hop (Or.inl z), fun z => hop (Or.inr z)⟩
