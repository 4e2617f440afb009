/-! ===== L2: the reference's members one behind the other, its enumerations ===== -/
theorem tl_eq {l : List Tok} (h : hd l ≠ 0) : l.tail.length + 1 = l.length := by
  cases l with
  | nil => exact absurd rfl h
  | cons a b => rfl
theorem tl_le (l : List Tok) : l.tail.length ≤ l.length := by simp
theorem pEx_len {en so c : Nat} {K K1 : List Ko} {l r : List Tok} (h : pEx en so c K l = (some K1, r)) : r.length + 2 ≤ l.length := by
  unfold pEx at h
  by_cases q1 : hd l = 61
  · rw [if_pos q1] at h
    by_cases q2 : (pX l.tail).1 = true
    · rw [if_pos q2] at h
      by_cases q3 : hd (pX l.tail).2.2 = 59
      · rw [if_pos q3] at h
        cases h
        have a1 := tl_eq (l := l) (by omega)
        have a2 := tl_eq (l := (pX l.tail).2.2) (by omega)
        have a3 := pX_len2 l.tail q2
        omega
      · rw [if_neg q3] at h
        simp at h
    · rw [if_neg q2] at h
      simp at h
  · rw [if_neg q1] at h
    simp at h
theorem pMm_len {en : Nat} {ms ms1 : List Mem} {K K1 : List Ko} {l r : List Tok} (h : pMm en ms K l = (some (ms1, K1), r)) (hh : 133 ≤ hd l) : r.length < l.length := by
  have a0 := tl_eq (l := l) (by omega)
  unfold pMm at h
  by_cases q1 : hd l = 133
  · rw [if_pos q1] at h
    unfold pAbs at h
    by_cases q2 : hd l.tail = 128 ∧ (mbs ms).length < 8
    · rw [if_pos q2] at h
      by_cases q3 : hd l.tail.tail = 59
      · rw [if_pos q3] at h
        cases h
        have a1 := tl_le l.tail
        have a2 := tl_le l.tail.tail
        omega
      · rw [if_neg q3] at h
        simp at h
    · rw [if_neg q2] at h
      simp at h
  rw [if_neg q1] at h
  by_cases q1 : hd l = 134
  · rw [if_pos q1] at h
    unfold pDef at h
    by_cases q2 : hd l.tail = 128 ∧ (mbs ms).length < 8
    · rw [if_pos q2] at h
      cases hp : pEx en 0 0 K l.tail.tail with
      | mk o r0 =>
        rw [hp] at h
        cases o with
        | none => simp at h
        | some K2 =>
          cases h
          have a1 := pEx_len hp
          have a2 := tl_le l.tail
          omega
    · rw [if_neg q2] at h
      simp at h
  rw [if_neg q1] at h
  by_cases q1 : hd l = 135
  · rw [if_pos q1] at h
    unfold pFld at h
    by_cases q2 : hd l.tail = 128 ∧ (fls ms).length < 6
    · rw [if_pos q2] at h
      cases hp : pEx en 1 0 K l.tail.tail with
      | mk o r0 =>
        rw [hp] at h
        cases o with
        | none => simp at h
        | some K2 =>
          cases h
          have a1 := pEx_len hp
          have a2 := tl_le l.tail
          omega
    · rw [if_neg q2] at h
      simp at h
  rw [if_neg q1] at h
  by_cases q1 : hd l = 136
  · rw [if_pos q1] at h
    unfold pCst at h
    by_cases q2 : hd l.tail = 128 ∧ (fls ms).length < 6
    · rw [if_pos q2] at h
      by_cases q3 : hd l.tail.tail = 61
      · rw [if_pos q3] at h
        by_cases q4 : hd l.tail.tail.tail = 129
        · rw [if_pos q4] at h
          by_cases q5 : hd l.tail.tail.tail.tail = 59
          · rw [if_pos q5] at h
            cases h
            have a1 := tl_le l.tail
            have a2 := tl_le l.tail.tail
            have a3 := tl_le l.tail.tail.tail
            have a4 := tl_le l.tail.tail.tail.tail
            omega
          · rw [if_neg q5] at h
            simp at h
        · rw [if_neg q4] at h
          simp at h
      · rw [if_neg q3] at h
        simp at h
    · rw [if_neg q2] at h
      simp at h
  rw [if_neg q1] at h
  unfold pMk at h
  cases hp : pEx en 2 0 (K ++ [mkK en]) l.tail with
  | mk o r0 =>
    rw [hp] at h
    cases o with
    | none => simp at h
    | some K2 =>
      cases h
      have a1 := pEx_len hp
      omega
theorem tc_mem {k : Nat} (h1 : 133 ≤ k) (h2 : k ≤ 137) : tc k = k - 112 := by
  rcases (show k = 133 ∨ k = 134 ∨ k = 135 ∨ k = 136 ∨ k = 137 by omega) with q | q | q | q | q <;> subst q <;> rfl
theorem tc_in {G : GG} {m : MM} {k : Nat} (hk : k < 256) : M_X11_in G (nI (tc k)) 21 25 m = some (decide (133 ≤ k ∧ k ≤ 137), m) := by
  have ht : tc k < 200 := by unfold tc; (repeat' split) <;> omega
  have e : 21 ≤ tc k ∧ tc k ≤ 25 ↔ 133 ≤ k ∧ k ≤ 137 := by unfold tc; (repeat' split) <;> omega
  unfold M_X11_in
  rw [show (21 : Int32) = nI 21 from rfl, show (25 : Int32) = nI 25 from rfl]
  by_cases q1 : tc k < 21
  · rw [if_pos ((nI_ltI (by omega) (by omega)).mpr q1), decide_eq_false (by omega)]
  rw [if_neg (fun z => q1 ((nI_ltI (by omega) (by omega)).mp z))]
  by_cases q2 : 25 < tc k
  · rw [if_pos ((nI_ltI (by omega) (by omega)).mpr q2), decide_eq_false (by omega)]
  rw [if_neg (fun z => q2 ((nI_ltI (by omega) (by omega)).mp z)), decide_eq_true (by omega)]
theorem mm_member {G : GG} {m : MM} {d tt len p : Nat} {B : Nat → Int32} {K : List Ko} {Q : List Enm} {cs : List Con} {ms : List Mem} {l : List Tok} (h : RT G m d tt len B K Q (p, cs, ms) l) (h1 : 133 ≤ hd l) (h2 : hd l ≤ 137) : (∀ ms1 K1 r, pMm Q.length ms K l = (some (ms1, K1), r) → RG G m d tt len B (M_X11_readMember G d m) K1 Q (p, cs, ms1) r) ∧ ∀ r, pMm Q.length ms K l = (none, r) → RB G m d tt len B (M_X11_readMember G d m) Q.length r := by
  obtain ⟨t, rs, el, z2, c1, c2, c3, c4⟩ := h.1.tok
  have h0 := h
  subst el
  have h1 : 133 ≤ t.1 := h1
  have h2 : t.1 ≤ 137 := h2
  obtain ⟨m1, e1, e2, e3, e4, e5⟩ := h.next (show t.1 ≠ 130 by omega)
  have hK := h.2.2.2.2.2
  have z44 := z2.2.1
  rw [tc_mem h1 h2] at z44
  unfold M_X11_readMember
  rw [bd_e e1, z44]
  have htl : (t :: rs).tail = rs := rfl
  rw [htl] at e2 e5
  have hh : hd (t :: rs) = t.1 := rfl
  unfold pMm
  rw [hh]
  have fin : ∀ {X : Option (Unit × MM)} {f : Option (List Mem × List Ko) × List Tok}, ((∀ ms1 K1 r, f = (some (ms1, K1), r) → RG G m1 d tt len B X K1 Q (p, cs, ms1) r) ∧ ∀ r, f = (none, r) → RB G m1 d tt len B X Q.length r) → (∀ ms1 K1 r, f = (some (ms1, K1), r) → RG G m d tt len B X K1 Q (p, cs, ms1) r) ∧ ∀ r, f = (none, r) → RB G m d tt len B X Q.length r := fun x => ⟨fun ms1 K1 r z => (x.1 ms1 K1 r z).tr e3.H, fun r z => (x.2 r z).tr e3.H⟩
  rcases (show t.1 = 133 ∨ t.1 = 134 ∨ t.1 = 135 ∨ t.1 = 136 ∨ t.1 = 137 by omega) with q | q | q | q | q
  · rw [q, if_pos rfl, if_neg (by decide), if_neg (by decide), if_neg (by decide)]
    have := mb_mem (l0 := t :: rs) e2 htl (Or.inl rfl)
    rw [if_pos rfl] at this
    exact fin this
  · rw [q, if_neg (by decide), if_pos rfl, if_neg (by decide), if_neg (by decide), if_neg (by decide)]
    have := mb_mem (l0 := t :: rs) e2 htl (Or.inr rfl)
    rw [if_neg (by decide)] at this
    exact fin this
  · rw [q, if_neg (by decide), if_neg (by decide), if_pos rfl, if_neg (by decide), if_pos (by decide)]
    have := mb_fld (l0 := t :: rs) e2 htl (Or.inl rfl)
    rw [if_pos rfl] at this
    exact fin this
  · rw [q, if_neg (by decide), if_neg (by decide), if_neg (by decide), if_pos rfl, if_neg (by decide), if_neg (by decide), if_pos (by decide)]
    have := mb_fld (l0 := t :: rs) e2 htl (Or.inr rfl)
    rw [if_neg (by decide)] at this
    exact fin this
  · rw [q, if_neg (by decide), if_neg (by decide), if_neg (by decide), if_neg (by decide), if_pos (by decide)]
    have := mb_mk (m0 := m) (pl := t.2.1) e2 z2.1 c2 (by simp only [List.length_cons] at hK; omega)
    exact fin this
/-- the members' loop and the closing -/
def pMe (en : Nat) (f : Nat) (ms : List Mem) (K : List Ko) (l : List Tok) : Option (List Mem × List Ko) × List Tok := match pMs en f ms K l with
  | (none, r) => (none, r)
  | (some x, r) => if hd r = 125 then (some x, r.tail) else (none, r)
theorem mm_close {G : GG} {m : MM} {d tt len : Nat} {B : Nat → Int32} {K : List Ko} {Q : List Enm} {E : Enm} {l : List Tok} (h : RT G m d tt len B K Q E l) : (hd l = 125 → RG G m d tt len B (bd (M_X11_need G d 125 m) fun _ m_8 => some ((), m_8)) K Q E l.tail) ∧ (hd l ≠ 125 → RB G m d tt len B (bd (M_X11_need G d 125 m) fun _ m_8 => some ((), m_8)) Q.length l) := by
  obtain ⟨x1, x2⟩ := h.need (w := 125) (by omega)
  rw [show (125 : Int32) = nI 125 from rfl]
  refine ⟨fun q => ?_, fun q => ?_⟩
  · obtain ⟨m1, e1, e2, e3, e4, e5⟩ := x1 q
    rw [bd_e e1]
    exact ⟨m1, rfl, e3.H, e2⟩
  · obtain ⟨m1, e1, e2, e3⟩ := x2 q
    rw [bd_e e1]
    exact ⟨m1, _, _, rfl, e3.H, e2⟩
theorem mm_closeB {G : GG} {m : MM} {d tt len e p : Nat} {B : Nat → Int32} {A : List Ko} {l : List Tok} (h : RE G m d tt len B e A [] l (some p)) : (bd (M_X11_need G d 125 m) fun _ m_8 => some ((), m_8)) = some ((), m) := by rw [bd_e h.needB]
theorem mm_213B {G : GG} {m : MM} {d tt len e p fu : Nat} {B : Nat → Int32} {A : List Ko} {l : List Tok} (h : RE G m d tt len B e A [] l (some p)) : B_X11_readEnum_213 G (fu + 1) d m = some ((), m) := by
  rw [B_X11_readEnum_213, bd_e h.gF, if_neg ff, bd_e h.needB]
theorem mm_193B {G : GG} {m : MM} {d tt len e p : Nat} {B : Nat → Int32} {A : List Ko} {l : List Tok} (h : RE G m d tt len B e A [] l (some p)) : B_X11_readEnum_193 G d m = some ((), m) := by
  unfold B_X11_readEnum_193
  rw [bd_e h.gF, if_neg ff, bd_e h.needB]
theorem mm_166B {G : GG} {m : MM} {d tt len e p fu : Nat} {B : Nat → Int32} {A : List Ko} {l : List Tok} (h : RE G m d tt len B e A [] l (some p)) : B_X11_readEnum_166 G (fu + 1) d m = some ((), m) := by
  rw [B_X11_readEnum_166, bd_e h.gF, if_neg ff, mm_193B h]
theorem mm_213 {G : GG} {d tt len p : Nat} {B : Nat → Int32} {Q : List Enm} {cs : List Con} : ∀ (fu f : Nat) (m : MM) (ms : List Mem) (K : List Ko) (l : List Tok), RT G m d tt len B K Q (p, cs, ms) l → l.length + 1 < fu → l.length < f → (∀ ms1 K1 r, pMe Q.length f ms K l = (some (ms1, K1), r) → RG G m d tt len B (B_X11_readEnum_213 G fu d m) K1 Q (p, cs, ms1) r) ∧ ∀ r, pMe Q.length f ms K l = (none, r) → RB G m d tt len B (B_X11_readEnum_213 G fu d m) Q.length r := by
  intro fu
  induction fu with
  | zero => intro f m ms K l _ h; omega
  | succ fu ih =>
    intro f m ms K l h hf1 hf2
    cases f with
    | zero => omega
    | succ f =>
      obtain ⟨t, rs, el, z2, c1, c2, c3, c4⟩ := h.1.tok
      rw [B_X11_readEnum_213, bd_e h.1.gT, if_pos rfl, z2.2.1, bd_e (tc_in c1)]
      unfold pMe
      rw [pMs]
      have hh : hd l = t.1 := by rw [el]; rfl
      rw [hh]
      by_cases q : 133 ≤ t.1 ∧ t.1 ≤ 137
      · rw [decide_eq_true q, if_pos rfl, if_pos q]
        obtain ⟨x1, x2⟩ := mm_member h (by omega) (by omega)
        cases hp : pMm Q.length ms K l with
        | mk o r =>
          cases o with
          | none =>
            refine ⟨fun ms1 K1 r z => by simp at z, fun r' z => ?_⟩
            cases z
            obtain ⟨m1, A, l1, e1, e2, e3⟩ := x2 r hp
            rw [bd_e e1]
            cases fu with
            | zero => omega
            | succ fu =>
              rw [mm_213B e3]
              exact ⟨m1, A, l1, rfl, e2, e3⟩
          | some x =>
            obtain ⟨ms1, K1⟩ := x
            have hr := pMm_len hp (by omega)
            obtain ⟨m1, e1, e2, e3⟩ := x1 ms1 K1 r hp
            rw [bd_e e1]
            obtain ⟨y1, y2⟩ := ih f m1 ms1 K1 r e3 (by omega) (by omega)
            exact ⟨fun ms2 K2 r2 z => (y1 ms2 K2 r2 z).tr e2, fun r2 z => (y2 r2 z).tr e2⟩
      · rw [decide_eq_false q, if_neg ff, if_neg q]
        obtain ⟨x1, x2⟩ := mm_close h
        by_cases q5 : hd l = 125
        · refine ⟨fun ms1 K1 r z => ?_, fun r z => ?_⟩
          · simp only [if_pos q5] at z
            cases z
            exact x1 q5
          · simp only [if_pos q5] at z
            simp at z
        · refine ⟨fun ms1 K1 r z => ?_, fun r z => ?_⟩
          · simp only [if_neg q5] at z
            simp at z
          · simp only [if_neg q5] at z
            cases z
            exact x2 q5
/-- what stands behind the constants -/
def pMc (en : Nat) (K : List Ko) (l : List Tok) : Option (List Mem × List Ko) × List Tok := match pMbs en K l with
  | (none, r) => (none, r)
  | (some x, r) => if hd r = 125 then (some x, r.tail) else (none, r)
theorem mm_193 {G : GG} {m : MM} {d tt len p : Nat} {B : Nat → Int32} {Q : List Enm} {cs : List Con} {K : List Ko} {l : List Tok} (h : RT G m d tt len B K Q (p, cs, []) l) : (∀ ms1 K1 r, pMc Q.length K l = (some (ms1, K1), r) → RG G m d tt len B (B_X11_readEnum_193 G d m) K1 Q (p, cs, ms1) r) ∧ ∀ r, pMc Q.length K l = (none, r) → RB G m d tt len B (B_X11_readEnum_193 G d m) Q.length r := by
  unfold B_X11_readEnum_193 pMc pMbs
  rw [bd_e h.1.gT, if_pos rfl, show (59 : Int32) = nI 59 from rfl, bd_e (h.1.isAt (by omega))]
  have hl := h.2.2.2.2.2
  by_cases q : hd l = 59
  · rw [decide_eq_true q, if_pos rfl, if_pos q]
    obtain ⟨m1, e1, e2, e3, e4, e5⟩ := h.next (by omega)
    rw [bd_e e1]
    obtain ⟨y1, y2⟩ := mm_213 FU 2002 m1 [] K l.tail e2 (by unfold FU; omega) (by omega)
    exact ⟨fun ms2 K2 r2 z => (y1 ms2 K2 r2 z).tr e3.H, fun r2 z => (y2 r2 z).tr e3.H⟩
  · rw [decide_eq_false q, if_neg ff, if_neg q]
    obtain ⟨x1, x2⟩ := mm_close h
    by_cases q5 : hd l = 125
    · refine ⟨fun ms1 K1 r z => ?_, fun r z => ?_⟩
      · simp only [if_pos q5] at z
        cases z
        exact x1 q5
      · simp only [if_pos q5] at z
        simp at z
    · refine ⟨fun ms1 K1 r z => ?_, fun r z => ?_⟩
      · simp only [if_neg q5] at z
        simp at z
      · simp only [if_neg q5] at z
        cases z
        exact x2 q5
/-- an enumeration's rest, from its constants on -/
def pRs (en : Nat) (x : Option (List Con × List Ko) × List Tok) : Option (List Con × List Mem × List Ko) × List Tok := match x with
  | (none, r) => (none, r)
  | (some (cs, K1), l1) => match pMc en K1 l1 with
    | (none, r) => (none, r)
    | (some (ms, K2), r) => (some (cs, ms, K2), r)
theorem mm_193r {G : GG} {m : MM} {d tt len p : Nat} {B : Nat → Int32} {Q : List Enm} {cs : List Con} {K : List Ko} {l : List Tok} (h : RT G m d tt len B K Q (p, cs, []) l) : (∀ cs1 ms1 K1 r, pRs Q.length (some (cs, K), l) = (some (cs1, ms1, K1), r) → RG G m d tt len B (B_X11_readEnum_193 G d m) K1 Q (p, cs1, ms1) r) ∧ ∀ r, pRs Q.length (some (cs, K), l) = (none, r) → RB G m d tt len B (B_X11_readEnum_193 G d m) Q.length r := by
  obtain ⟨x1, x2⟩ := mm_193 h
  unfold pRs
  dsimp only
  cases hp : pMc Q.length K l with
  | mk o r =>
    cases o with
    | none =>
      refine ⟨fun cs1 ms1 K1 r z => by simp at z, fun r' z => ?_⟩
      cases z
      exact x2 r hp
    | some x =>
      refine ⟨fun cs1 ms1 K1 r z => ?_, fun r' z => by simp at z⟩
      cases z
      exact x1 _ _ _ hp
theorem pC1_len {en : Nat} {cs : List Con} {q : Con} {K K1 : List Ko} {l r : List Tok} (h : pC1 en cs K l = (some (q, K1), r)) : cs.length < 12 := by
  unfold pC1 at h
  by_cases c : hd l = 128 ∧ cs.length < 12
  · exact c.2
  · rw [if_neg c] at h
    simp at h
theorem mm_166 {G : GG} {d tt len p : Nat} {B : Nat → Int32} {Q : List Enm} : ∀ (fu f : Nat) (m : MM) (cs : List Con) (K : List Ko) (l : List Tok), RT G m d tt len B K Q (p, cs, []) l → 14 < fu + cs.length → 13 < f + cs.length → (∀ cs1 ms1 K1 r, pRs Q.length (if hd l = 44 then pCs Q.length f cs K l.tail else (some (cs, K), l)) = (some (cs1, ms1, K1), r) → RG G m d tt len B (B_X11_readEnum_166 G fu d m) K1 Q (p, cs1, ms1) r) ∧ ∀ r, pRs Q.length (if hd l = 44 then pCs Q.length f cs K l.tail else (some (cs, K), l)) = (none, r) → RB G m d tt len B (B_X11_readEnum_166 G fu d m) Q.length r := by
  intro fu
  induction fu with
  | zero =>
    intro f m cs K l h h1 h2
    have := h.eb.2.1.1
    have : cs.length ≤ 12 := this
    omega
  | succ fu ih =>
    intro f m cs K l h h1 h2
    have hc : cs.length ≤ 12 := h.eb.2.1.1
    rw [B_X11_readEnum_166, bd_e h.1.gT, if_pos rfl, show (44 : Int32) = nI 44 from rfl, bd_e (h.1.isAt (by omega))]
    by_cases q : hd l = 44
    · rw [decide_eq_true q, if_pos rfl, if_pos q]
      obtain ⟨m1, e1, e2, e3, e4, e5⟩ := h.next (by omega)
      rw [bd_e e1]
      cases f with
      | zero => omega
      | succ f =>
        rw [pCs_eq]
        obtain ⟨x1, x2⟩ := mc_const e2
        cases hp : pC1 Q.length cs K l.tail with
        | mk o r =>
          cases o with
          | none =>
            refine ⟨fun cs1 ms1 K1 r z => by simp [pRs] at z, fun r' z => ?_⟩
            obtain ⟨m2, A, l1, f1, f2, f3⟩ := x2 r hp
            rw [bd_e f1]
            have er : r = r' := by
              unfold pRs at z
              cases z
              rfl
            subst er
            cases fu with
            | zero => omega
            | succ fu =>
              rw [mm_166B f3]
              exact ⟨m2, A, l1, rfl, e3.H.tr f2, f3⟩
          | some x =>
            obtain ⟨c, K1⟩ := x
            have hl := pC1_len hp
            obtain ⟨m2, f1, f2, f3⟩ := x1 c K1 r hp
            rw [bd_e f1]
            obtain ⟨y1, y2⟩ := ih f m2 (cs ++ [c]) K1 r f3 (by simp; omega) (by simp; omega)
            exact ⟨fun cs2 ms2 K2 r2 z => (y1 cs2 ms2 K2 r2 z).tr (e3.H.tr f2), fun r2 z => (y2 r2 z).tr (e3.H.tr f2)⟩
    · rw [decide_eq_false q, if_neg ff, if_neg q]
      exact mm_193r h
