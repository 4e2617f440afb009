/-! ===== L2: the reference's next token ===== -/
/-- what the reference holds of a token -/
def MT (m : MM) (d : Nat) (B : Nat → Int32) (c : Tok) : Prop := gI m d 42 = nI c.2.1 ∧ gI m d 44 = nI (tc c.1) ∧ (c.1 < 128 → gI m d 45 = nI c.1) ∧ (c.1 = 129 → gI m d 45 = nI c.2.2) ∧ ((c.1 = 128 ∨ 132 ≤ c.1) → gI m d 43 = nI (nl B c.2.1))
theorem MT.kept {m m1 : MM} {d : Nat} {B : Nat → Int32} {c : Tok} {S A : List Nat} (h : MT m d B c) (o : OM m m1 d S A) (h1 : 42 ∉ S) (h2 : 43 ∉ S) (h3 : 44 ∉ S) (h4 : 45 ∉ S) : MT m1 d B c := by
  obtain ⟨a1, a2, a3, a4, a5⟩ := h
  exact ⟨by rw [o.I h1]; exact a1, by rw [o.I h3]; exact a2, fun q => by rw [o.I h4]; exact a3 q, fun q => by rw [o.I h4]; exact a4 q, fun q => by rw [o.I h2]; exact a5 q⟩
theorem mm_name {G : GG} {d tt len p : Nat} {B : Nat → Int32} : ∀ (fu q : Nat) (m : MM), LM G m d → TM m d tt len B → gI m d 41 = nI q → gI m d 42 = nI p → p ≤ q → q ≤ len → len - q < fu → ∃ m1, B_X11_next_75 G fu d m = some ((), m1) ∧ OM m m1 d [41, 43, 44] [] ∧ gI m1 d 41 = nI (q + alRun B (len - q) q) ∧ gI m1 d 43 = nI (q + alRun B (len - q) q - p) ∧ gI m1 d 44 = nI (if q + alRun B (len - q) q - p ≤ 12 then tc (wk B p (q + alRun B (len - q) q - p)) else 4) := by
  intro fu
  induction fu with
  | zero => intro q m _ _ _ _ _ _ hf; exact absurd hf (by omega)
  | succ fu ih =>
    intro q m hL hT h41 h42 hpq hq hf
    have hX := hT.2.2.2.1
    have hle := hX.1
    rw [B_X11_next_75, h41, bd_e (mm_byteAt hL hT (by omega)), bd_e mm_isLet]
    simp only [h41]
    have stop : isAl (B q) = true → ∀ (A : Option (Unit × MM)), True := fun _ _ => trivial
    have more : isAl (B q) = true → ∃ m1, B_X11_next_75 G fu d (sI m d 41 (nI q + 1)) = some ((), m1) ∧ OM m m1 d [41, 43, 44] [] ∧ gI m1 d 41 = nI (q + alRun B (len - q) q) ∧ gI m1 d 43 = nI (q + alRun B (len - q) q - p) ∧ gI m1 d 44 = nI (if q + alRun B (len - q) q - p ≤ 12 then tc (wk B p (q + alRun B (len - q) q - p)) else 4) := by
      intro ha
      have hlt := hX.lt ha
      have o : OM m (sI m d 41 (nI q + 1)) d [41] [] := OM.f
      obtain ⟨m1, e1, e2, e3, e4, e5⟩ := ih (q + 1) (sI m d 41 (nI q + 1)) (hL.kept o) (hT.kept o (by decide) (by decide) (by decide)) (by rw [gI_sI_eq, nI_1]) (by rw [gI_sI_ne (Or.inr (by decide))]; exact h42) (by omega) (by omega) (by omega)
      have er : q + alRun B (len - q) q = q + 1 + alRun B (len - (q + 1)) (q + 1) := by
        rw [show len - q = (len - (q + 1)) + 1 by omega, alRun, if_pos ha]
        omega
      rw [er]
      exact ⟨m1, e1, (o.tr e2).mono (by simp) (by simp), e3, e4, e5⟩
    by_cases h1 : isLet (B q) = true
    · rw [if_pos h1]
      exact more (isLet_al h1)
    rw [if_neg h1, bd_e (mm_byteAt hL hT (by omega)), bd_e mm_isDig]
    simp only [h41]
    by_cases h2 : isDig (B q) = true
    · rw [if_pos h2]
      exact more (by simp [isAl, h2])
    rw [if_neg h2, gI_sI_eq, h42, pk_sub hpq, show (12 : Int32) = nI 12 from rfl]
    have ha : ¬ isAl (B q) = true := by simp [isAl, h1, h2]
    have er : alRun B (len - q) q = 0 := by
      cases hz : len - q with
      | zero => rfl
      | succ z => rw [alRun, if_neg ha]
    rw [er, Nat.add_zero]
    have o : OM m (sI m d 43 (nI (q - p))) d [43] [] := OM.f
    by_cases h12 : q - p ≤ 12
    · rw [if_pos ((nI_leI (by omega) (by omega)).mpr h12), bd_e (mm_word (hL.kept o) (hT.kept o (by decide) (by decide) (by decide)) (by rw [gI_sI_ne (Or.inr (by decide))]; exact h42) (by omega) (by rw [gI_sI_eq]) (by omega)), if_pos h12]
      exact ⟨_, rfl, (o.tr OM.f).mono (by simp) (by simp), by rw [gI_sI_ne (Or.inr (by decide)), gI_sI_ne (Or.inr (by decide))]; exact h41, by rw [gI_sI_ne (Or.inr (by decide)), gI_sI_eq], by rw [gI_sI_eq]⟩
    · rw [if_neg (fun z => h12 ((nI_leI (by omega) (by omega)).mp z)), if_neg h12]
      exact ⟨_, rfl, (o.tr OM.f).mono (by simp) (by simp), by rw [gI_sI_ne (Or.inr (by decide)), gI_sI_ne (Or.inr (by decide))]; exact h41, by rw [gI_sI_ne (Or.inr (by decide)), gI_sI_eq], by rw [gI_sI_eq]; rfl⟩
theorem i32_num {x y : Int32} : (10 * x + y) - 48 = x * 10 + (y - 48) := by
  rw [Int32.mul_comm, Int32.sub_eq_add_neg, Int32.sub_eq_add_neg, Int32.add_assoc]
theorem mm_num {G : GG} {d tt len p : Nat} {B : Nat → Int32} : ∀ (fu r : Nat) (m : MM), LM G m d → TM m d tt len B → gI m d 41 = nI (p + r) → gI m d 42 = nI p → r ≤ 9 → p + r ≤ len → 9 - r < fu → ∃ m1, B_X11_next_165 G fu d m = some ((), m1) ∧ OM m m1 d [41, 44, 45] [] ∧ gI m1 d 41 = nI (p + (r + dgRun B (9 - r) (p + r))) ∧ gI m1 d 44 = nI 2 ∧ gI m1 d 45 = dgVal B (dgRun B (9 - r) (p + r)) (p + r) (gI m d 45) := by
  intro fu
  induction fu with
  | zero => intro q m _ _ _ _ _ _ hf; exact absurd hf (by omega)
  | succ fu ih =>
    intro r m hL hT h41 h42 hr hq hf
    have hX := hT.2.2.2.1
    have hle := hX.1
    rw [B_X11_next_165, h41, bd_e (mm_byteAt hL hT (by omega)), bd_e mm_isDig]
    simp only [h41]
    by_cases h2 : isDig (B (p + r)) = true
    · rw [if_pos h2, h42, pk_sub (by omega), show p + r - p = r by omega, show (9 : Int32) = nI 9 from rfl]
      by_cases h9 : 9 ≤ r
      · rw [if_pos ((nI_leI (by omega) (by omega)).mpr h9), show 9 - r = 0 by omega]
        exact ⟨_, rfl, (OM.f (m := m) (d := d) (k := 44) (v := 2)).mono (by simp) (by simp), by rw [gI_sI_ne (Or.inr (by decide))]; exact h41, by rw [gI_sI_eq]; rfl, by rw [gI_sI_ne (Or.inr (by decide))]; rfl⟩
      · have hlt := hX.lt (show isAl (B (p + r)) = true by simp [isAl, h2])
        rw [if_neg (fun z => h9 ((nI_leI (by omega) (by omega)).mp z)), bd_e (mm_byteAt hL hT (by omega)), gI_sI_ne (Or.inr (by decide)), h41, nI_1, i32_num]
        have o : OM m (sI (sI m d 45 (gI m d 45 * 10 + (B (p + r) - 48))) d 41 (nI (p + r + 1))) d [45, 41] [] := (OM.f.tr OM.f).mono (by simp) (by simp)
        obtain ⟨m1, e1, e2, e3, e4, e5⟩ := ih (r + 1) _ (hL.kept o) (hT.kept o (by decide) (by decide) (by decide)) (by rw [gI_sI_eq]; rfl) (by rw [gI_sI_ne (Or.inr (by decide)), gI_sI_ne (Or.inr (by decide))]; exact h42) (by omega) (by omega) (by omega)
        have er : dgRun B (9 - r) (p + r) = dgRun B (9 - (r + 1)) (p + (r + 1)) + 1 := by
          rw [show 9 - r = (9 - (r + 1)) + 1 by omega, dgRun, if_pos h2]
          rfl
        rw [er]
        refine ⟨m1, e1, (o.tr e2).mono (by simp) (by simp), by rw [e3]; congr 1; omega, e4, ?_⟩
        rw [e5, gI_sI_ne (Or.inr (by decide)), gI_sI_eq]
        rfl
    · rw [if_neg h2]
      have er : dgRun B (9 - r) (p + r) = 0 := by
        cases hz : 9 - r with
        | zero => rfl
        | succ z => rw [dgRun, if_neg h2]
      rw [er]
      exact ⟨_, rfl, (OM.f (m := m) (d := d) (k := 44) (v := 2)).mono (by simp) (by simp), by rw [gI_sI_ne (Or.inr (by decide))]; exact h41, by rw [gI_sI_eq]; rfl, by rw [gI_sI_ne (Or.inr (by decide))]; rfl⟩
theorem mm_nextLoop {G : GG} {d tt len : Nat} {B : Nat → Int32} (hB : By B len) : ∀ (fu p : Nat) (m : MM), LM G m d → TM m d tt len B → gI m d 41 = nI p → p ≤ len → len - p < fu → ∃ (m1 : MM) (p1 : Nat) (c : Tok) (rs : List Tok), B_X11_next_0 G fu d m = some ((), m1) ∧ OM m m1 d [41, 42, 43, 44, 45] [] ∧ tks B len p = c :: rs ∧ MT m1 d B c ∧ gI m1 d 41 = nI p1 ∧ p1 ≤ len ∧ (c.1 ≠ 130 → tks B len p1 = rs) ∧ (c.1 = 130 → p1 = len ∧ c.2.1 = len) := by
  intro fu
  induction fu with
  | zero => intro p m _ _ _ _ hf; exact absurd hf (by omega)
  | succ fu ih =>
    intro p m hL hT h41 hp hf
    have hX := hT.2.2.2.1
    have hle := hX.1
    rw [B_X11_next_0, h41, bd_e (mm_byteAt hL hT (by omega))]
    simp only [h41]
    have more : isBl (B p) = true → ∃ (m1 : MM) (p1 : Nat) (c : Tok) (rs : List Tok), B_X11_next_0 G fu d (sI m d 41 (nI p + 1)) = some ((), m1) ∧ OM m m1 d [41, 42, 43, 44, 45] [] ∧ tks B len p = c :: rs ∧ MT m1 d B c ∧ gI m1 d 41 = nI p1 ∧ p1 ≤ len ∧ (c.1 ≠ 130 → tks B len p1 = rs) ∧ (c.1 = 130 → p1 = len ∧ c.2.1 = len) := by
      intro hb
      have hlt : p < len := by
        rcases Nat.lt_or_ge p len with q | q
        · exact q
        · rw [hX.2 p q] at hb
          exact absurd hb (by decide)
      have o : OM m (sI m d 41 (nI p + 1)) d [41] [] := OM.f
      obtain ⟨m1, p1, c, rs, e1, e2, e3, e4⟩ := ih (p + 1) _ (hL.kept o) (hT.kept o (by decide) (by decide) (by decide)) (by rw [gI_sI_eq, nI_1]) (by omega) (by omega)
      exact ⟨m1, p1, c, rs, e1, (o.tr e2).mono (by simp) (by simp), by rw [tks_bl hlt hb]; exact e3, e4⟩
    by_cases q1 : B p = 32
    · rw [if_pos q1]
      exact more (by simp [isBl, q1])
    rw [if_neg q1, bd_e (mm_byteAt hL hT (by omega))]
    simp only [h41]
    by_cases q2 : B p = 10
    · rw [if_pos q2]
      exact more (by simp [isBl, q2])
    have hbl : ¬ isBl (B p) = true := by simp [isBl, q1, q2]
    have o : OM m (sI m d 42 (nI p)) d [42] [] := OM.f
    have hL1 := hL.kept o
    have hT1 := hT.kept o (by decide) (by decide) (by decide)
    rw [if_neg q2, gI_sI_ne (Or.inr (by decide)), h41, bd_e (mm_byteAt hL1 hT1 (by omega))]
    by_cases hend : len ≤ p
    · have e : p = len := by omega
      subst e
      rw [hX.2 p (Nat.le_refl _), if_neg (by decide)]
      refine ⟨_, p, (130, p, 0), [], rfl, (o.tr OM.f).mono (by simp) (by simp), tks_end (Nat.le_refl _), ⟨?_, ?_, fun z => absurd z (by show ¬ 130 < 128; omega), fun z => absurd z (by show ¬ 130 = 129; omega), fun z => absurd z (by show ¬ (130 = 128 ∨ 132 ≤ 130); omega)⟩, ?_, Nat.le_refl _, fun z => absurd rfl z, fun _ => ⟨rfl, rfl⟩⟩
      · rw [gI_sI_ne (Or.inr (by decide)), gI_sI_eq]
      · rw [gI_sI_eq]; rfl
      · rw [gI_sI_ne (Or.inr (by decide)), gI_sI_ne (Or.inr (by decide))]; exact h41
    have hlt : p < len := by omega
    obtain ⟨v, hv, ev⟩ := hB p hlt
    have hLp := tkL_pos (B := B) (p := p)
    have hLe := tkL_le hX hlt
    rw [if_pos (by rw [ev]; exact nI_pos' (by omega)), bd_e mm_isLet]
    have fin : ∀ m1 : MM, B_X11_next_0 G 0 d m1 = none := fun m1 => rfl
    by_cases hlet : isLet (B p) = true
    · rw [if_pos hlet]
      obtain ⟨m1, e1, e2, e3, e4, e5⟩ := mm_name (p := p) FU p _ hL1 hT1 (by rw [gI_sI_ne (Or.inr (by decide))]; exact h41) (by rw [gI_sI_eq]) (Nat.le_refl _) hp (by unfold FU; omega)
      have en : alRun B (len - p) p = nl B p := (alRun_stab hX 2001 p (by omega)).symm
      rw [en] at e3 e4 e5
      rw [show p + nl B p - p = nl B p by omega] at e4 e5
      have eL : tkL B p = nl B p := by simp [tkL, hlet]
      have eK : tkK B p = if nl B p ≤ 12 then wk B p (nl B p) else 131 := by simp [tkK, hlet]
      have hw := wk_lt B p (nl B p)
      have hk128 : 128 ≤ tkK B p := by rw [eK]; split <;> omega
      have hk129 : tkK B p ≠ 129 ∧ tkK B p ≠ 130 := by
        rw [eK]
        split
        · unfold wk
          repeat' split
          all_goals decide
        · decide
      refine ⟨m1, p + tkL B p, (tkK B p, p, tkV B p), tks B len (p + tkL B p), e1, (o.tr e2).mono (by simp) (by simp), tks_tok hlt hbl, ⟨?_, ?_, fun z => absurd z (by show ¬ tkK B p < 128; omega), fun z => absurd z hk129.1, fun _ => e4⟩, by rw [eL]; exact e3, hLe, fun _ => rfl, fun z => absurd z hk129.2⟩
      · rw [e2.I (by decide), gI_sI_eq]
      · rw [e5]
        show nI _ = nI (tc (tkK B p))
        rw [eK]
        split
        · rfl
        · rfl
    rw [if_neg hlet, bd_e mm_isDig]
    by_cases hdg : isDig (B p) = true
    · rw [if_pos hdg]
      have o2 : OM (sI m d 42 (nI p)) (sI (sI m d 42 (nI p)) d 45 0) d [45] [] := OM.f
      obtain ⟨m1, e1, e2, e3, e4, e5⟩ := mm_num (p := p) FU 0 _ (hL1.kept o2) (hT1.kept o2 (by decide) (by decide) (by decide)) (by rw [gI_sI_ne (Or.inr (by decide)), gI_sI_ne (Or.inr (by decide))]; exact h41) (by rw [gI_sI_ne (Or.inr (by decide)), gI_sI_eq]) (by omega) (by omega) (by unfold FU; omega)
      rw [Nat.zero_add, Nat.sub_zero, Nat.add_zero] at e3
      rw [Nat.sub_zero, Nat.add_zero, gI_sI_eq, ← nI_0, dgVal_N 9 _ p 0 (Nat.le_refl _)] at e5
      have eL : tkL B p = dgRun B 9 p := by simp [tkL, hlet, hdg]
      have eK : tkK B p = 129 := by simp [tkK, hlet, hdg]
      have eV : tkV B p = dgN B (dgRun B 9 p) p 0 := by simp [tkV, hlet, hdg]
      refine ⟨m1, p + tkL B p, (tkK B p, p, tkV B p), tks B len (p + tkL B p), e1, ((o.tr o2).tr e2).mono (by simp) (by simp), tks_tok hlt hbl, ⟨?_, ?_, fun z => absurd z (by show ¬ tkK B p < 128; omega), fun _ => by rw [e5, ← eV], fun z => absurd z (by show ¬ (tkK B p = 128 ∨ 132 ≤ tkK B p); omega)⟩, by rw [eL]; exact e3, hLe, fun _ => rfl, fun z => absurd (show tkK B p = 130 from z) (by omega)⟩
      · rw [e2.I (by decide), gI_sI_ne (Or.inr (by decide)), gI_sI_eq]
      · rw [e4]
        show nI 2 = nI (tc (tkK B p))
        rw [eK]
        rfl
    rw [if_neg hdg, bd_e mm_isSg]
    have eL : tkL B p = 1 := by simp [tkL, hlet, hdg]
    by_cases hsg : isSg (B p) = true
    · have hv2 := isSg_nat v hv (by rw [← ev]; exact hsg)
      have eK : tkK B p = v := by
        unfold tkK
        rw [if_neg hlet, if_neg hdg, if_pos hsg, ev]
        exact nI_clamp (by omega)
      rw [if_pos hsg, gI_sI_ne (Or.inr (by decide)), gI_sI_ne (Or.inr (by decide)), gI_sI_ne (Or.inr (by decide)), h41, nI_1]
      refine ⟨_, p + tkL B p, (tkK B p, p, tkV B p), tks B len (p + tkL B p), rfl, (((o.tr OM.f).tr OM.f).tr OM.f).mono (by simp) (by simp), tks_tok hlt hbl, ⟨?_, ?_, fun _ => ?_, fun z => absurd (show tkK B p = 129 from z) (by omega), fun z => absurd z (by show ¬ (tkK B p = 128 ∨ 132 ≤ tkK B p); omega)⟩, by rw [eL, gI_sI_eq], hLe, fun _ => rfl, fun z => absurd (show tkK B p = 130 from z) (by omega)⟩
      · rw [gI_sI_ne (Or.inr (by decide)), gI_sI_ne (Or.inr (by decide)), gI_sI_ne (Or.inr (by decide)), gI_sI_eq]
      · rw [gI_sI_ne (Or.inr (by decide)), gI_sI_ne (Or.inr (by decide)), gI_sI_eq]
        show 3 = nI (tc (tkK B p))
        rw [eK, tc, if_pos hv2]
        rfl
      · rw [gI_sI_ne (Or.inr (by decide)), gI_sI_eq, ev]
        show nI v = nI (tkK B p)
        rw [eK]
    · have eK : tkK B p = 131 := by
        unfold tkK
        rw [if_neg hlet, if_neg hdg, if_neg hsg]
      rw [if_neg hsg, gI_sI_ne (Or.inr (by decide)), gI_sI_ne (Or.inr (by decide)), gI_sI_ne (Or.inr (by decide)), h41, nI_1]
      refine ⟨_, p + tkL B p, (tkK B p, p, tkV B p), tks B len (p + tkL B p), rfl, (((o.tr OM.f).tr OM.f).tr OM.f).mono (by simp) (by simp), tks_tok hlt hbl, ⟨?_, ?_, fun z => absurd (show tkK B p < 128 from z) (by omega), fun z => absurd (show tkK B p = 129 from z) (by omega), fun z => absurd z (by show ¬ (tkK B p = 128 ∨ 132 ≤ tkK B p); omega)⟩, by rw [eL, gI_sI_eq], hLe, fun _ => rfl, fun z => absurd (show tkK B p = 130 from z) (by omega)⟩
      · rw [gI_sI_ne (Or.inr (by decide)), gI_sI_ne (Or.inr (by decide)), gI_sI_ne (Or.inr (by decide)), gI_sI_eq]
      · rw [gI_sI_ne (Or.inr (by decide)), gI_sI_ne (Or.inr (by decide)), gI_sI_eq]
        show 4 = nI (tc (tkK B p))
        rw [eK]
        rfl
theorem mm_next {G : GG} {m : MM} {d tt len p : Nat} {B : Nat → Int32} (hB : By B len) (hL : LM G m d) (hT : TM m d tt len B) (h41 : gI m d 41 = nI p) (hp : p ≤ len) : ∃ (m1 : MM) (p1 : Nat) (c : Tok) (rs : List Tok), M_X11_next G d m = some ((), m1) ∧ OM m m1 d [41, 42, 43, 44, 45] [] ∧ tks B len p = c :: rs ∧ MT m1 d B c ∧ gI m1 d 41 = nI p1 ∧ p1 ≤ len ∧ (c.1 ≠ 130 → tks B len p1 = rs) ∧ (c.1 = 130 → p1 = len ∧ c.2.1 = len) := by
  have hle := hT.2.2.2.1.1
  exact mm_nextLoop hB FU p m hL hT h41 hp (by unfold FU; omega)
