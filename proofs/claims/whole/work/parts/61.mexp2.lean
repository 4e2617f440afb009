/-! ===== L2: the reference's exp: its pile ===== -/
def n7 : List Nat → Prop
  | [] => True
  | x :: l => x = 0 ∨ (x ≠ 7 ∧ n7 l)
def g7 : List Nat → Prop
  | [] => True
  | x :: l => (8 ≤ x → n7 l) ∧ g7 l
theorem n7_pop : ∀ (st : List Nat) (r : Nat), 0 < r → n7 st → n7 (popG r st).2 ∧ nng (popG r st).1 = 0 := by
  intro st
  induction st with
  | nil => intro r _ _; exact ⟨trivial, rfl⟩
  | cons x l ih =>
    intro r hr h
    simp only [popG]
    split
    · rename_i q
      rcases h with z | z
      · subst z
        simp [rnk] at q
        omega
      · obtain ⟨a, b⟩ := ih r hr z.2
        exact ⟨a, by simp only [nng, if_neg z.1, b]⟩
    · exact ⟨h, rfl⟩
theorem g7_pop : ∀ (st : List Nat) (r : Nat), g7 st → g7 (popG r st).2 := by
  intro st
  induction st with
  | nil => intro r h; exact h
  | cons x l ih =>
    intro r h
    simp only [popG]
    split
    · exact ih r h.2
    · exact h
theorem g7_tail {st : List Nat} (h : g7 st) : g7 st.tail := by
  cases st with
  | nil => exact h
  | cons x l => exact h.2
theorem n7_three : ∀ (st : List Nat), (∀ y ∈ st, y = 0 ∨ (7 ≤ y ∧ y ≤ 11)) → g7 st → n7 (popG 3 st).2 := by
  intro st
  induction st with
  | nil => intro _ _; trivial
  | cons x l ih =>
    intro h hg
    simp only [popG]
    have hx := h x (by simp)
    split
    · exact ih (fun y hy => h y (by simp [hy])) hg.2
    · rename_i q
      rcases hx with z | z
      · exact Or.inl z
      · have h7 : x ≠ 7 := fun e => by subst e; simp [rnk] at q
        exact Or.inr ⟨h7, hg.1 (by omega)⟩
def xK (e c : Nat) (l : List Nat) : List Ko := l.map (fun y => kox e 0 c (bop y))
theorem RE.unst {G : GG} {m : MM} {d tt len e x : Nat} {B : Nat → Int32} {A : List Ko} {st : List Nat} {l : List Tok} {F : Option Nat} (h : RE G m d tt len B e A (x :: st) l F) : RE G (sI m d 53 (nI st.length)) d tt len B e A st l F ∧ OE m (sI m d 53 (nI st.length)) d tt ∧ A.length + 1 + st.length + l.length ≤ 2001 ∧ gI m (d + 41) st.length = nI (rop x) ∧ gI m d 53 = nI (st.length + 1) := by
  obtain ⟨g1, g2, g3, g4, g5, g6, g7, g8, g9, g10, g11⟩ := h
  have oh : OE m (sI m d 53 (nI st.length)) d tt := OE.f (by omega) (by omega) (by omega)
  rw [List.length_cons] at g6 g10
  refine ⟨⟨g1.oh oh, g2.oh oh, g3, g4.kept (fun k k1 k2 => gI_sI_ne (Or.inr (by omega))), g5.kept (fun i i1 i2 i3 => (sI_off (by omega)).1), gI_sI_eq, g7.2.kept (fun j _ => gI_sI_ne (Or.inl (by omega))), by rw [gI_sI_ne (Or.inr (by decide))]; exact g8, g9.kept (fun k k1 k2 => gI_sI_ne (Or.inr (by omega))), by omega, g11⟩, oh, by omega, g7.1, g6⟩
/-- the top is put -/
theorem RE.pop {G : GG} {m : MM} {d tt len e c x : Nat} {B : Nat → Int32} {A : List Ko} {st : List Nat} {l : List Tok} {F : Option Nat} (h : RE G m d tt len B e A (x :: st) l F) (hx : 7 ≤ x) : ∃ m1, M_X11_emit G d (nI (rop x)) 0 (sI m d 53 (nI st.length)) = some ((), m1) ∧ RE G m1 d tt len B e (A ++ [kox e 0 c (bop x)]) st l F ∧ OE m m1 d tt := by
  obtain ⟨h1, h2, h3, h4, h5⟩ := h.unst
  obtain ⟨m1, e1, e2, e3, -⟩ := h1.emit (c := c) (o := bop x) (a := 0) (by omega) (fun z => absurd z (by show ¬ x = 1; omega)) (fun z y => absurd y (by show ¬ x ≤ 6; omega)) (by show x ≠ 2 ∧ x ≠ 3; omega)
  have er : rop x = acd (bop x).1 := by unfold rop; rw [if_neg (by omega)]; rfl
  rw [er]
  exact ⟨m1, e1, e2, h2.tr e3⟩
theorem rop_11 {x : Nat} (h : x = 0 ∨ (7 ≤ x ∧ x ≤ 11)) : (nI (rop x) = 11 ↔ x = 7) ∧ (nI (rop x) = 12 ↔ x = 0) := by
  rcases (show x = 0 ∨ x = 7 ∨ x = 8 ∨ x = 9 ∨ x = 10 ∨ x = 11 by omega) with rfl | rfl | rfl | rfl | rfl | rfl <;> decide
theorem mm_closeMinus {G : GG} {d tt len e c : Nat} {B : Nat → Int32} {l : List Tok} {F : Option Nat} : ∀ (st : List Nat) (fu n : Nat) (m : MM) (A : List Ko), RE G m d tt len B e A st l F → (∀ y ∈ st, y = 0 ∨ (7 ≤ y ∧ y ≤ 11)) → st.length < fu → st.length < 1000 → ∃ m1, B_X11_closeMinus_2 G fu d (nI 0) (nI n) m = some (nI (n + nng (popG 3 st).1), m1) ∧ RE G m1 d tt len B e (A ++ xK e c (popG 3 st).1) (popG 3 st).2 l F ∧ OE m m1 d tt := by
  intro st
  induction st with
  | nil =>
    intro fu n m A h _ hf _
    cases fu with
    | zero => exact absurd hf (by omega)
    | succ fu =>
      rw [B_X11_closeMinus_2, h.2.2.2.2.2.1, if_pos ((nI_leI (by simp) (by omega)).mpr (by simp))]
      exact ⟨m, rfl, by simpa [popG, xK] using h, OE.rf⟩
  | cons x st ih =>
    intro fu n m A h hy hf hl
    cases fu with
    | zero => exact absurd hf (by omega)
    | succ fu =>
      rw [List.length_cons] at hf hl
      obtain ⟨u1, u2, u3, u4, u5⟩ := h.unst
      have hx := hy x (by simp)
      have hL := h.1
      rw [B_X11_closeMinus_2, u5, if_neg (fun z => absurd ((nI_leI (by omega) (by omega)).mp z) (by omega)), nb_e (mr_52 hL), mz_52 hL, nI_pred, ib_n (by omega) (by omega), nI_clamp (by omega), u4]
      by_cases h7 : x = 7
      · obtain ⟨m1, e1, e2, e3⟩ := h.pop (c := c) (by omega)
        have er : nI (rop x) = 11 := (rop_11 hx).1.mpr h7
        rw [er] at e1
        rw [if_pos er, bd_e e1, nI_1]
        obtain ⟨m2, f1, f2, f3⟩ := ih fu (n + 1) m1 _ e2 (fun y hy' => hy y (by simp [hy'])) (by omega) (by omega)
        have ep : popG 3 (x :: st) = (x :: (popG 3 st).1, (popG 3 st).2) := by simp only [popG]; rw [if_pos (by rw [h7]; decide)]
        rw [ep]
        refine ⟨m2, ?_, ?_, e3.tr f3⟩
        · rw [f1]
          simp only [nng, if_pos h7]
          rw [show n + 1 + nng (popG 3 st).1 = n + (1 + nng (popG 3 st).1) by omega]
        · simpa [xK, List.append_assoc] using f2
      · have er : ¬ nI (rop x) = 11 := fun z => h7 ((rop_11 hx).1.mp z)
        rw [if_neg er]
        have ep : popG 3 (x :: st) = ([], x :: st) := by
          simp only [popG]
          rw [if_neg]
          rcases (show x = 0 ∨ x = 8 ∨ x = 9 ∨ x = 10 ∨ x = 11 by omega) with rfl | rfl | rfl | rfl | rfl <;> decide
        rw [ep]
        exact ⟨m, rfl, by simpa [xK] using h, OE.rf⟩
theorem mm_rank {G : GG} {m : MM} {x : Nat} (hx : x = 0 ∨ (7 ≤ x ∧ x ≤ 11)) (h7 : x ≠ 7) : M_X11_rank G (nI (rop x)) m = some (nI (rnk x), m) := by
  rcases (show x = 0 ∨ x = 8 ∨ x = 9 ∨ x = 10 ∨ x = 11 by omega) with rfl | rfl | rfl | rfl | rfl <;> rfl
/-- what a sign puts before it waits itself -/
theorem mm_popG {G : GG} {d tt len e c j de sg : Nat} {bo : Bool} {B : Nat → Int32} {l : List Tok} {F : Option Nat} {k18 : Nat → Int32 → Int32 → Int32 → Int32 → Bool → MM → Option (Unit × MM)} (hj : 8 ≤ j ∧ j ≤ 11) : ∀ (st : List Nat) (fu : Nat) (m : MM) (A : List Ko), RE G m d tt len B e A st l F → (∀ y ∈ st, y = 0 ∨ (7 ≤ y ∧ y ≤ 11)) → n7 st → st.length < fu → st.length < 1000 → ∃ m1, B_X11_readExp_224 G k18 fu d (nI 0) (nI de) (nI sg) bo (nI (rop j)) m = B_X11_readExp_281 G k18 d (nI 0) (nI de) (nI sg) bo (nI (rop j)) m1 ∧ RE G m1 d tt len B e (A ++ xK e c (popG (rnk j) st).1) (popG (rnk j) st).2 l F ∧ OE m m1 d tt := by
  have hr : 0 < rnk j := by rcases (show j = 8 ∨ j = 9 ∨ j = 10 ∨ j = 11 by omega) with rfl | rfl | rfl | rfl <;> decide
  have hr3 := rnk_le j
  intro st
  induction st with
  | nil =>
    intro fu m A h _ _ hf _
    cases fu with
    | zero => exact absurd hf (by omega)
    | succ fu =>
      rw [B_X11_readExp_224, h.2.2.2.2.2.1, if_pos ((nI_leI (by simp) (by omega)).mpr (by simp))]
      exact ⟨m, rfl, by simpa [popG, xK] using h, OE.rf⟩
  | cons x st ih =>
    intro fu m A h hy hn hf hl
    cases fu with
    | zero => exact absurd hf (by omega)
    | succ fu =>
      rw [List.length_cons] at hf hl
      obtain ⟨u1, u2, u3, u4, u5⟩ := h.unst
      have hx := hy x (by simp)
      have hL := h.1
      have hx7 : x ≠ 7 := by
        rcases hn with z | z
        · omega
        · exact z.1
      have hrx := rnk_le x
      rw [B_X11_readExp_224, u5, if_neg (fun z => absurd ((nI_leI (by omega) (by omega)).mp z) (by omega)), nb_e (mr_52 hL), mz_52 hL, nI_pred, ib_n (by omega) (by omega), nI_clamp (by omega), u4, bd_e (mm_rank hx hx7), bd_e (mm_rank (Or.inr ⟨by omega, by omega⟩) (by omega))]
      by_cases hs : rnk x < rnk j
      · rw [if_pos ((nI_ltI (by omega) (by omega)).mpr hs)]
        have ep : popG (rnk j) (x :: st) = ([], x :: st) := by simp only [popG]; rw [if_neg (by omega)]
        rw [ep]
        exact ⟨m, rfl, by simpa [xK] using h, OE.rf⟩
      · have hx0 : x ≠ 0 := fun z => by
          rw [z] at hs
          exact hs (by show 0 < rnk j; exact hr)
        obtain ⟨m1, e1, e2, e3⟩ := h.pop (c := c) (by omega)
        rw [if_neg (fun z => hs ((nI_ltI (by omega) (by omega)).mp z)), u5, nI_pred, gI_sI_eq, gR_sI, nb_e (mr_52 hL), mz_52 hL, ib_n (by omega) (by omega), gI_sI_ne (Or.inl (by omega)), nI_clamp (by omega), u4, bd_e e1]
        have hn2 : n7 st := by
          rcases hn with z | z
          · exact absurd z hx0
          · exact z.2
        obtain ⟨m2, f1, f2, f3⟩ := ih fu m1 _ e2 (fun y hy' => hy y (by simp [hy'])) hn2 (by omega) (by omega)
        have ep : popG (rnk j) (x :: st) = (x :: (popG (rnk j) st).1, (popG (rnk j) st).2) := by simp only [popG]; rw [if_pos (by omega)]
        rw [ep]
        exact ⟨m2, f1, by simpa [xK, List.append_assoc] using f2, e3.tr f3⟩
/-- what a closing puts, down to what opens -/
theorem mm_popO {G : GG} {d tt len e c : Nat} {de sg w4 : Int32} {bo : Bool} {B : Nat → Int32} {l : List Tok} {F : Option Nat} {k18 : Nat → Int32 → Int32 → Int32 → Int32 → Bool → MM → Option (Unit × MM)} : ∀ (st : List Nat) (fu : Nat) (m : MM) (A : List Ko), RE G m d tt len B e A st l F → (∀ y ∈ st, y = 0 ∨ (7 ≤ y ∧ y ≤ 11)) → 0 ∈ st → st.length < fu → st.length < 1000 → ∃ m1, B_X11_readExp_329 G k18 fu d (nI 0) de sg w4 bo m = (bd (M_X11_next G d m1) fun _ m_33 => bd (M_X11_closeMinus G d (nI 0) m_33) fun r_34 m_35 => k18 d (nI 0) ((de + (-1)) - r_34) sg w4 bo m_35) ∧ RE G m1 d tt len B e (A ++ xK e c (popG 1 st).1) (popG 1 st).2.tail l F ∧ OE m m1 d tt := by
  intro st
  induction st with
  | nil => intro fu m A _ _ h0; simp at h0
  | cons x st ih =>
    intro fu m A h hy h0 hf hl
    cases fu with
    | zero => exact absurd hf (by omega)
    | succ fu =>
      rw [List.length_cons] at hf hl
      obtain ⟨u1, u2, u3, u4, u5⟩ := h.unst
      have hx := hy x (by simp)
      have hL := h.1
      rw [B_X11_readExp_329, u5, nb_e (mr_52 hL), mz_52 hL, nI_pred, ib_n (by omega) (by omega), nI_clamp (by omega), u4]
      by_cases hx0 : x = 0
      · rw [if_pos ((rop_11 hx).2.mpr hx0)]
        have ep : popG 1 (x :: st) = ([], x :: st) := by simp only [popG]; rw [if_neg (by rw [hx0]; decide)]
        rw [ep]
        exact ⟨_, rfl, by simpa [xK] using u1, u2⟩
      · obtain ⟨m1, e1, e2, e3⟩ := h.pop (c := c) (by omega)
        rw [if_neg (fun z => hx0 ((rop_11 hx).2.mp z)), gI_sI_eq, gR_sI, nb_e (mr_52 hL), mz_52 hL, ib_n (by omega) (by omega), gI_sI_ne (Or.inl (by omega)), nI_clamp (by omega), u4, bd_e e1]
        have h02 : 0 ∈ st := by
          rcases List.mem_cons.mp h0 with z | z
          · exact absurd z.symm hx0
          · exact z
        obtain ⟨m2, f1, f2, f3⟩ := ih fu m1 _ e2 (fun y hy' => hy y (by simp [hy'])) h02 (by omega) (by omega)
        have ep : popG 1 (x :: st) = (x :: (popG 1 st).1, (popG 1 st).2) := by
          simp only [popG]
          rw [if_pos]
          rcases (show x = 7 ∨ x = 8 ∨ x = 9 ∨ x = 10 ∨ x = 11 by omega) with rfl | rfl | rfl | rfl | rfl <;> decide
        rw [ep]
        exact ⟨m2, f1, by simpa [xK, List.append_assoc] using f2, e3.tr f3⟩
theorem PM_open {m : MM} {a : Nat} : ∀ (st : List Nat), (∀ y ∈ st, y = 0 ∨ (7 ≤ y ∧ y ≤ 11)) → PM m a st → ((∃ j, j < st.length ∧ gI m a j = 12) ↔ 0 ∈ st) := by
  intro st
  induction st with
  | nil => intro _ _; simp
  | cons x l ih =>
    intro hy h
    have hx := (rop_11 (hy x (by simp))).2
    have h2 := ih (fun y hy' => hy y (by simp [hy'])) h.2
    constructor
    · rintro ⟨j, hj, e⟩
      rw [List.length_cons] at hj
      by_cases q : j = l.length
      · subst q
        rw [h.1] at e
        rw [hx.mp e]
        simp
      · exact List.mem_cons.mpr (Or.inr (h2.mp ⟨j, by omega, e⟩))
    · intro z
      rcases List.mem_cons.mp z with q | q
      · exact ⟨l.length, by simp, by rw [h.1]; exact hx.mpr q.symm⟩
      · obtain ⟨j, hj, e⟩ := h2.mpr q
        exact ⟨j, by rw [List.length_cons]; omega, e⟩
theorem mm_hasOpenL {G : GG} {d n : Nat} {m : MM} (hL : LM G m d) (h53 : gI m d 53 = nI n) (hn : n < 1000) : ∀ (fu i : Nat) (b : Bool), n - i < fu → i ≤ n → ∃ r, B_X11_hasOpen_4 G fu d b (nI i) m = some (r, m) ∧ (r = true ↔ (b = true ∨ ∃ j, i ≤ j ∧ j < n ∧ gI m (d + 41) j = 12)) := by
  intro fu
  induction fu with
  | zero => intro i b hf; exact absurd hf (by omega)
  | succ fu ih =>
    intro i b hf hi
    rw [B_X11_hasOpen_4, h53]
    by_cases q : n ≤ i
    · rw [if_pos ((nI_leI (by omega) (by omega)).mpr q)]
      exact ⟨b, rfl, fun z => Or.inl z, fun z => by rcases z with z | ⟨j, h1, h2, h3⟩; exact z; omega⟩
    · rw [if_neg (fun z => q ((nI_leI (by omega) (by omega)).mp z)), nI_1]
      cases b with
      | true =>
        obtain ⟨r, e1, e2⟩ := ih (i + 1) true (by omega) (by omega)
        rw [if_pos rfl]
        exact ⟨r, e1, fun _ => Or.inl rfl, fun _ => e2.mpr (Or.inl rfl)⟩
      | false =>
        rw [if_neg ff, nb_e (mr_52 hL), mz_52 hL, ib_n (by omega) (by omega), nI_clamp (by omega)]
        by_cases q2 : gI m (d + 41) i = 12
        · rw [if_pos q2]
          obtain ⟨r, e1, e2⟩ := ih (i + 1) true (by omega) (by omega)
          exact ⟨r, e1, fun _ => Or.inr ⟨i, Nat.le_refl _, by omega, q2⟩, fun _ => e2.mpr (Or.inl rfl)⟩
        · rw [if_neg q2]
          obtain ⟨r, e1, e2⟩ := ih (i + 1) false (by omega) (by omega)
          refine ⟨r, e1, fun z => ?_, fun z => ?_⟩
          · rcases e2.mp z with y | ⟨j, h1, h2, h3⟩
            · cases y
            · exact Or.inr ⟨j, by omega, h2, h3⟩
          · rcases z with y | ⟨j, h1, h2, h3⟩
            · cases y
            · refine e2.mpr (Or.inr ⟨j, ?_, h2, h3⟩)
              rcases Nat.lt_or_ge i j with y | y
              · exact y
              · exact absurd (show gI m (d + 41) i = 12 by rw [show i = j by omega]; exact h3) q2
theorem mm_hasOpen {G : GG} {m : MM} {d tt len e : Nat} {B : Nat → Int32} {A : List Ko} {st : List Nat} {l : List Tok} {F : Option Nat} (h : RE G m d tt len B e A st l F) (hy : ∀ y ∈ st, y = 0 ∨ (7 ≤ y ∧ y ≤ 11)) (hl : st.length < 1000) : M_X11_hasOpen G d (nI 0) m = some (decide (0 ∈ st), m) := by
  unfold M_X11_hasOpen
  obtain ⟨r, e1, e2⟩ := mm_hasOpenL h.1 h.2.2.2.2.2.1 hl FU 0 false (by unfold FU; omega) (by omega)
  have e3 := PM_open st hy h.2.2.2.2.2.2.1
  rw [e1]
  by_cases q : 0 ∈ st
  · obtain ⟨j, hj, e⟩ := e3.mpr q
    rw [e2.mpr (Or.inr ⟨j, by omega, hj, e⟩), decide_eq_true q]
  · have : r ≠ true := fun z => by
      rcases e2.mp z with y | ⟨j, h1, h2, h3⟩
      · cases y
      · exact q (e3.mp ⟨j, h2, h3⟩)
    rw [show r = false by simpa using this, decide_eq_false q]
/-- the end of an exp -/
theorem mm_tail {G : GG} {d tt len e c : Nat} {B : Nat → Int32} {l : List Tok} {F : Option Nat} : ∀ (st : List Nat) (fu : Nat) (m : MM) (A : List Ko), RE G m d tt len B e A st l F → (F = none → ∀ y ∈ st, 7 ≤ y) → st.length < fu → st.length < 1000 → ∃ m1, B_X11_readExp_425 G fu d (nI 0) m = some ((), m1) ∧ RE G m1 d tt len B e (A ++ (if F = none then xK e c st else [])) [] l F ∧ OE m m1 d tt := by
  intro st
  induction st with
  | nil =>
    intro fu m A h _ hf _
    cases fu with
    | zero => exact absurd hf (by omega)
    | succ fu =>
      rw [B_X11_readExp_425, h.2.2.2.2.2.1, if_pos ((nI_leI (by simp) (by omega)).mpr (by simp))]
      exact ⟨m, rfl, by simpa [xK] using h, OE.rf⟩
  | cons x st ih =>
    intro fu m A h hy hf hl
    cases fu with
    | zero => exact absurd hf (by omega)
    | succ fu =>
      rw [List.length_cons] at hf hl
      obtain ⟨u1, u2, u3, u4, u5⟩ := h.unst
      have hL := h.1
      rw [B_X11_readExp_425, u5, if_neg (fun z => absurd ((nI_leI (by omega) (by omega)).mp z) (by omega)), nI_pred, bd_e u1.good]
      cases F with
      | some p =>
        rw [if_neg (show ¬ (some p).isNone = true from ff)]
        obtain ⟨m2, f1, f2, f3⟩ := ih fu _ A u1 (fun z => by cases z) (by omega) (by omega)
        exact ⟨m2, f1, f2, u2.tr f3⟩
      | none =>
        have hx := hy rfl x (by simp)
        obtain ⟨m1, e1, e2, e3⟩ := h.pop (c := c) hx
        rw [if_pos (by rfl), gR_sI, nb_e (mr_52 hL), mz_52 hL, gI_sI_eq, ib_n (by omega) (by omega), gI_sI_ne (Or.inl (by omega)), nI_clamp (by omega), u4, bd_e e1]
        obtain ⟨m2, f1, f2, f3⟩ := ih fu m1 _ e2 (fun z y hy' => hy z y (by simp [hy'])) (by omega) (by omega)
        exact ⟨m2, f1, by simpa [xK, List.append_assoc] using f2, e3.tr f3⟩
theorem mm_fin {G : GG} {m : MM} {d tt len e c : Nat} {B : Nat → Int32} {A : List Ko} {st : List Nat} {l : List Tok} (h : RE G m d tt len B e A st l none) (hy : ∀ y ∈ st, y = 0 ∨ (7 ≤ y ∧ y ≤ 11)) (hl : st.length < 1000) : ∃ m1, B_X11_readExp_406 G d (nI 0) m = some ((), m1) ∧ OE m m1 d tt ∧ (0 ∈ st → ∃ A1, RE G m1 d tt len B e A1 [] l (some (plc l))) ∧ (0 ∉ st → RE G m1 d tt len B e (A ++ xK e c st) [] l none) := by
  unfold B_X11_readExp_406
  rw [bd_e h.gT, if_pos rfl, bd_e (mm_hasOpen h hy hl)]
  by_cases q : 0 ∈ st
  · rw [decide_eq_true q, if_pos rfl]
    obtain ⟨m1, e1, e2, e3⟩ := h.stop
    rw [bd_e e1]
    obtain ⟨m2, f1, f2, f3⟩ := mm_tail (c := c) st FU m1 A e2 (fun z => by cases z) (by unfold FU; omega) hl
    exact ⟨m2, f1, (e3.oh (by simp)).tr f3, fun _ => ⟨_, f2⟩, fun z => absurd q z⟩
  · rw [decide_eq_false q, if_neg ff]
    obtain ⟨m2, f1, f2, f3⟩ := mm_tail (c := c) st FU m A h (fun _ y hy' => by
      rcases hy y hy' with z | z
      · subst z; exact absurd hy' q
      · omega) (by unfold FU; omega) hl
    exact ⟨m2, f1, f3, fun z => absurd z q, fun _ => by simpa using f2⟩
theorem mm_finB {G : GG} {m : MM} {d tt len e p fu : Nat} {x2 x3 x4 : Int32} {x5 : Bool} {B : Nat → Int32} {A : List Ko} {st : List Nat} {l : List Tok} (h : RE G m d tt len B e A st l (some p)) (hl : st.length < 1000) : ∃ m1, B_X11_readExp_18 G (fu + 1) d (nI 0) x2 x3 x4 x5 m = some ((), m1) ∧ OE m m1 d tt ∧ RE G m1 d tt len B e A [] l (some p) := by
  obtain ⟨m2, f1, f2, f3⟩ := mm_tail (c := 0) st FU m A h (fun z => by cases z) (by unfold FU; omega) hl
  have e406 : B_X11_readExp_406 G d (nI 0) m = some ((), m2) := by
    unfold B_X11_readExp_406
    rw [bd_e h.gF, if_neg ff, f1]
  refine ⟨m2, ?_, f3, by simpa using f2⟩
  rw [B_X11_readExp_18]
  cases x5 with
  | true => rw [if_pos rfl, bd_e h.gF, if_neg ff, e406]
  | false => rw [if_neg ff, e406]
