/-! ===== L2: the class's reading of an exp ===== -/
def encOp (o : Op) : Int64 := lN ((if o.1 = 1 then o.2.2.2 else if o.1 = 2 then o.2.1 else if o.1 = 3 then o.2.1 * 4096 + o.2.2.1 else 0) * 16 + o.1)
/-- the class's code -/
def CO (G : GG) (m : MM) (pg : Nat) (C : List Int64) : Prop := gR m pg 2 = some (pg + 3) ∧ G.2.2 (pg + 3) = 2000 ∧ gI m pg 4 = nI C.length ∧ C.length ≤ 2000 ∧ ∀ j v, C[j]? = some v → gL m (pg + 3) j = v
theorem CO.kept {G : GG} {m m1 : MM} {pg : Nat} {C : List Int64} {l : List Nat} (h : CO G m pg C) (o : Off m m1 l) (h1 : pg ∉ l) (h2 : pg + 3 ∉ l) : CO G m1 pg C := by
  obtain ⟨a1, a2, a3, a4, a5⟩ := h
  exact ⟨by rw [o.R h1]; exact a1, a2, by rw [o.I h1]; exact a3, a4, fun j v hj => by rw [o.L h2]; exact a5 j v hj⟩
theorem co_put {G : GG} {m : MM} {pg op a : Nat} {C : List Int64} (h : CO G m pg C) (hl : C.length < 2000) (h1 : op < 2 ^ 31) (h2 : a < 2 ^ 31) : ∃ m1, M_X6_put G pg (nI op) (nI a) m = some (true, m1) ∧ CO G m1 pg (C ++ [lN (a * 16 + op)]) ∧ Off m m1 [pg, pg + 3] ∧ (∀ j, j ≠ 4 → gI m1 pg j = gI m pg j) ∧ m1.2.2 = m.2.2 := by
  obtain ⟨a1, a2, a3, a4, a5⟩ := h
  unfold M_X6_put
  rw [nb_e a1, a2, a3, if_pos ((nI_ltI (by omega) (by omega)).mpr hl), ib_n hl (by omega), nI_clamp (by omega), gI_sL, a3, nI_1]
  have e : ((nI a).toInt64 * 16) + (nI op).toInt64 = lN (a * 16 + op) := by
    rw [nI_l h2, nI_l h1, show (16 : Int64) = lN 16 from rfl, lN_mul, lN_add]
  rw [e]
  refine ⟨_, rfl, ⟨a1, a2, by rw [gI_sI_eq, List.length_append]; rfl, by rw [List.length_append]; exact hl, fun j v hj => ?_⟩, (Off.sL.tr Off.sI).mono (by simp), fun j hj => by rw [gI_sI_ne (Or.inr hj), gI_sL], rfl⟩
  rw [gL_sI, gL_sL]
  by_cases hjl : j < C.length
  · rw [List.getElem?_append_left hjl] at hj
    rw [if_neg (by omega)]
    exact a5 j v hj
  · rw [List.getElem?_append_right (by omega)] at hj
    have hz : j - C.length < 1 := (List.getElem?_eq_some_iff.mp hj).1
    have hz2 : j = C.length := by omega
    subst hz2
    rw [Nat.sub_self] at hj
    cases hj
    rw [if_pos ⟨rfl, rfl⟩]
def opI (x : Nat) : Int32 := if x = 0 then -1 else nI x
/-- what waits on the class's pile -/
def PL (m : MM) (a : Nat) : List Nat → Prop
  | [] => True
  | x :: l => gI m a l.length = opI x ∧ PL m a l
theorem PL.kept {m m1 : MM} {a : Nat} : ∀ {st : List Nat}, PL m a st → (∀ j, j < st.length → gI m1 a j = gI m a j) → PL m1 a st := by
  intro st
  induction st with
  | nil => intro _ _; trivial
  | cons x l ih =>
    intro h hk
    exact ⟨by rw [hk l.length (by simp)]; exact h.1, ih h.2 (fun j hj => hk j (by rw [List.length_cons]; omega))⟩
/-- the class's reader of exps: where its parts are -/
def DX (x tk pg fa : Nat) : Prop := ∃ n, x = n + 207 ∧ tk = n + 205 ∧ fa = n + 203 ∧ (pg = n + 1 ∨ pg = n + 101)
def XE (G : GG) (m : MM) (x tk pg fa so : Nat) (st : List Nat) (op ne sg : Nat) (C : List Int64) : Prop := gR m x 0 = some (x + 1) ∧ G.2.2 (x + 1) = 26 ∧ gR m x 1 = some tk ∧ gR m x 2 = some pg ∧ gR m x 3 = some fa ∧ gI m x 4 = nI so ∧ gI m x 5 = nI st.length ∧ PL m (x + 1) st ∧ gI m x 6 = nI op ∧ gI m x 7 = nI ne ∧ gI m x 8 = nI sg ∧ CO G m pg C
theorem rnk_le (y : Nat) : rnk y ≤ 3 := by
  unfold rnk
  repeat' split
  all_goals omega
theorem cx_strength {G : GG} {m : MM} {x y : Nat} (hy : y < 12) : M_X2_strengthOf G x (opI y) m = some (nI (rnk y), m) := by
  rcases (show y = 0 ∨ y = 1 ∨ y = 2 ∨ y = 3 ∨ y = 4 ∨ y = 5 ∨ y = 6 ∨ y = 7 ∨ y = 8 ∨ y = 9 ∨ y = 10 ∨ y = 11 by omega) with rfl | rfl | rfl | rfl | rfl | rfl | rfl | rfl | rfl | rfl | rfl | rfl <;> rfl
theorem cx_putLoop {G : GG} {x tk pg fa so op sg r : Nat} (hD : DX x tk pg fa) (hr : 0 < r) (hr3 : r ≤ 3) : ∀ (st : List Nat) (fu ne : Nat) (m : MM) (C : List Int64), XE G m x tk pg fa so st op ne sg C → st.length ≤ 26 → (∀ y ∈ st, y < 12) → st.length < fu → C.length + st.length ≤ 2000 → nng (popG r st).1 ≤ ne → ne < 1000 → ∃ m1, B_X2_putWaiting_7 G fu x (nI r) (nI st.length - 1) m = some ((), m1) ∧ XE G m1 x tk pg fa so (popG r st).2 op (ne - nng (popG r st).1) sg (C ++ (popG r st).1.map (fun y => encOp (bop y))) ∧ Off m m1 [x, pg, pg + 3] ∧ (∀ j, j ≠ 4 → gI m1 pg j = gI m pg j) ∧ m1.2.2 = m.2.2 := by
  intro st
  induction st with
  | nil =>
    intro fu ne m C h _ _ hf _ hn _
    cases fu with
    | zero => exact absurd hf (by omega)
    | succ fu =>
      rw [B_X2_putWaiting_7, if_pos (by decide)]
      exact ⟨m, rfl, by simpa [popG, nng] using h, Off.rf, fun _ _ => rfl, rfl⟩
  | cons y l ih =>
    intro fu ne m C h h26 h12 hf hC hn hne
    rw [List.length_cons] at h26 hf hC
    cases fu with
    | zero => exact absurd hf (by omega)
    | succ fu =>
      have h0 := h
      obtain ⟨e0, e1, e2, e3, e4, e5, e6, e7, e8, e9, e10, e11⟩ := h
      have hy := h12 y (by simp)
      have hrk := rnk_le y
      rw [List.length_cons, nI_pred, B_X2_putWaiting_7, if_neg (nI_pos (by omega)), nb_e e0, e1, if_neg (fun z => absurd ((nI_leI (by omega) (by omega)).mp z) (by omega)), ib_n (by omega) (by omega), nI_clamp (by omega), e7.1, bd_e (cx_strength hy)]
      by_cases hs : rnk y < r
      · rw [if_pos ((nI_ltI (by omega) (by omega)).mpr hs)]
        have ep : popG r (y :: l) = ([], y :: l) := by simp only [popG]; rw [if_neg (by omega)]
        rw [ep]
        exact ⟨m, rfl, by simpa [nng] using h0, Off.rf, fun _ _ => rfl, rfl⟩
      · have hy0 : y ≠ 0 := fun z => by subst z; simp [rnk] at hs; omega
        have ep : popG r (y :: l) = (y :: (popG r l).1, (popG r l).2) := by simp only [popG]; rw [if_pos (by omega)]
        rw [ep] at hn ⊢
        simp only [nng] at hn
        have ey : opI y = nI y := by simp [opI, hy0]
        obtain ⟨m1, f1, f2, f3, f4, f5⟩ := co_put e11 (op := y) (a := 0) (by omega) (by omega) (by omega)
        obtain ⟨n0, d1, d2, d3, d4⟩ := hD
        have hxo : x ∉ [pg, pg + 3] := by simp; omega
        have hxo1 : x + 1 ∉ [pg, pg + 3] := by simp; omega
        have g0 : gR m1 x 0 = some (x + 1) := by rw [f3.R hxo]; exact e0
        rw [if_neg (fun z => absurd ((nI_ltI (by omega) (by omega)).mp z) hs), nb_e e3, nb_e e0, e1, ib_n (by omega) (by omega), e7.1, ey, show (0 : Int32) = nI 0 from nI_0.symm, bd_e f1, nb_e g0, e1, ib_n (by omega) (by omega), f3.I hxo1, e7.1, ey, f3.I hxo, e9, show nI l.length + (-1) = nI l.length - 1 from by rw [Int32.sub_eq_add_neg]]
        have ee : lN (0 * 16 + y) = encOp (bop y) := by
          unfold encOp bop
          by_cases q1 : y = 1
          · subst q1; simp [rnk] at hs; omega
          by_cases q2 : y = 2
          · subst q2; simp [rnk] at hs; omega
          by_cases q3 : y = 3
          · subst q3; simp [rnk] at hs; omega
          simp [q1, q2, q3]
        rw [ee] at f2
        by_cases h7 : y = 7
        · have hn7 : 1 ≤ ne := by simp [h7] at hn; omega
          rw [if_pos (by rw [h7]; rfl), show (1 : Int32) = nI 1 from rfl, pk_sub hn7]
          have oo : Off m (sI (sI m1 x 7 (nI (ne - 1))) x 5 (nI l.length)) [x, pg, pg + 3] := ((f3.tr Off.sI).tr Off.sI).mono (by simp)
          have hX : XE G (sI (sI m1 x 7 (nI (ne - 1))) x 5 (nI l.length)) x tk pg fa so l op (ne - 1) sg (C ++ [encOp (bop y)]) := by
            have o2 : Off m1 (sI (sI m1 x 7 (nI (ne - 1))) x 5 (nI l.length)) [x] := Off.sI.tr1 Off.sI
            refine ⟨g0, e1, ?_, ?_, ?_, ?_, gI_sI_eq, ?_, ?_, ?_, ?_, f2.kept o2 (by simp; omega) (by simp; omega)⟩
            · show gR m1 x 1 = _; rw [f3.R hxo]; exact e2
            · show gR m1 x 2 = _; rw [f3.R hxo]; exact e3
            · show gR m1 x 3 = _; rw [f3.R hxo]; exact e4
            · rw [gI_sI_ne (Or.inr (by decide)), gI_sI_ne (Or.inr (by decide)), f3.I hxo]; exact e5
            · exact e7.2.kept (fun j _ => by rw [gI_sI_ne (Or.inl (by omega)), gI_sI_ne (Or.inl (by omega)), f3.I hxo1])
            · rw [gI_sI_ne (Or.inr (by decide)), gI_sI_ne (Or.inr (by decide)), f3.I hxo]; exact e8
            · rw [gI_sI_ne (Or.inr (by decide)), gI_sI_eq]
            · rw [gI_sI_ne (Or.inr (by decide)), gI_sI_ne (Or.inr (by decide)), f3.I hxo]; exact e10
          obtain ⟨m2, k1, k2, k3, k4, k5⟩ := ih fu (ne - 1) _ _ hX (by omega) (fun z hz => h12 z (by simp [hz])) (by omega) (by rw [List.length_append]; simp; omega) (by simp [h7] at hn; omega) (by omega)
          refine ⟨m2, k1, ?_, oo.tr1 k3, fun j hj => by rw [k4 j hj, gI_sI_ne (Or.inl (by omega)), gI_sI_ne (Or.inl (by omega)), f4 j hj], k5.trans f5⟩
          simp only [nng, h7, if_true, List.map_cons]
          rw [h7] at k2
          rw [show ne - (1 + nng (popG r l).1) = ne - 1 - nng (popG r l).1 by omega]
          simpa [List.append_assoc] using k2
        · rw [if_neg (fun z => h7 ((nI_eq (by omega) (by omega)).mp (by rw [show (7 : Int32) = nI 7 from rfl] at z; exact z)))]
          have oo : Off m (sI m1 x 5 (nI l.length)) [x, pg, pg + 3] := (f3.tr Off.sI).mono (by simp)
          have hX : XE G (sI m1 x 5 (nI l.length)) x tk pg fa so l op ne sg (C ++ [encOp (bop y)]) := by
            have o2 : Off m1 (sI m1 x 5 (nI l.length)) [x] := Off.sI
            refine ⟨g0, e1, ?_, ?_, ?_, ?_, gI_sI_eq, ?_, ?_, ?_, ?_, f2.kept o2 (by simp; omega) (by simp; omega)⟩
            · show gR m1 x 1 = _; rw [f3.R hxo]; exact e2
            · show gR m1 x 2 = _; rw [f3.R hxo]; exact e3
            · show gR m1 x 3 = _; rw [f3.R hxo]; exact e4
            · rw [gI_sI_ne (Or.inr (by decide)), f3.I hxo]; exact e5
            · exact e7.2.kept (fun j _ => by rw [gI_sI_ne (Or.inl (by omega)), f3.I hxo1])
            · rw [gI_sI_ne (Or.inr (by decide)), f3.I hxo]; exact e8
            · rw [gI_sI_ne (Or.inr (by decide)), f3.I hxo]; exact e9
            · rw [gI_sI_ne (Or.inr (by decide)), f3.I hxo]; exact e10
          obtain ⟨m2, k1, k2, k3, k4, k5⟩ := ih fu ne _ _ hX (by omega) (fun z hz => h12 z (by simp [hz])) (by omega) (by rw [List.length_append]; simp; omega) (by simp [h7] at hn; omega) (by omega)
          refine ⟨m2, k1, ?_, oo.tr1 k3, fun j hj => by rw [k4 j hj, gI_sI_ne (Or.inl (by omega)), f4 j hj], k5.trans f5⟩
          simp only [nng, if_neg h7, List.map_cons, Nat.zero_add]
          simpa [List.append_assoc] using k2
theorem cx_put {G : GG} {x tk pg fa so op sg r ne : Nat} {st : List Nat} {m : MM} {C : List Int64} (hD : DX x tk pg fa) (hr : 0 < r) (hr3 : r ≤ 3) (h : XE G m x tk pg fa so st op ne sg C) (h26 : st.length ≤ 26) (h12 : ∀ y ∈ st, y < 12) (hC : C.length + st.length ≤ 2000) (hn : nng (popG r st).1 ≤ ne) (hne : ne < 1000) : ∃ m1, M_X2_putWaiting G x (nI r) m = some ((), m1) ∧ XE G m1 x tk pg fa so (popG r st).2 op (ne - nng (popG r st).1) sg (C ++ (popG r st).1.map (fun y => encOp (bop y))) ∧ Off m m1 [x, pg, pg + 3] ∧ (∀ j, j ≠ 4 → gI m1 pg j = gI m pg j) ∧ m1.2.2 = m.2.2 := by
  unfold M_X2_putWaiting
  rw [h.2.2.2.2.2.2.1, show (1 : Int32) = 1 from rfl]
  exact cx_putLoop hD hr hr3 st FU ne m C h h26 h12 (by unfold FU; omega) hC hn hne
