/-! ===== L2: what an exp is, by its tokens: a machine that both sides follow ===== -/
/-- an op: its code, its place, a second place, a number -/
abbrev Op : Type := Nat × Nat × Nat × Nat
def bop (x : Nat) : Op := (x, 0, 0, 0)
def rnk (x : Nat) : Nat := if x = 7 then 3 else if x = 8 then 1 else if x = 9 then 1 else if x = 10 then 2 else if x = 11 then 2 else 0
def jop (k : Nat) : Nat := if k = 42 then 10 else if k = 43 then 8 else if k = 45 then 9 else if k = 47 then 11 else 0
/-- what waits on top and is as strong at least; what stays -/
def popG (r : Nat) : List Nat → List Nat × List Nat
  | [] => ([], [])
  | x :: l => if r ≤ rnk x then (x :: (popG r l).1, (popG r l).2) else ([], x :: l)
/-- how many of them are signs ahead of one -/
def nng : List Nat → Nat
  | [] => 0
  | x :: l => (if x = 7 then 1 else 0) + nng l
/-- the machine's state: mode, a name's place, what waits, how deep, how many signs, what is put -/
abbrev XS : Type := Nat × Nat × List Nat × Nat × Nat × List Op
def aft (st : List Nat) (de sg : Nat) (out : List Op) (o : Op) : XS := (1, 0, (popG 3 st).2, de - nng (popG 3 st).1, sg, out ++ [o] ++ (popG 3 st).1.map bop)
def stp1 (st : List Nat) (de sg : Nat) (out : List Op) (k : Nat) : XS ⊕ (Bool × List Op) :=
  if jop k ≠ 0 then (if 20 ≤ sg then .inr (false, out) else .inl (0, 0, jop k :: (popG (rnk (jop k)) st).2, de - nng (popG (rnk (jop k)) st).1, sg + 1, out ++ (popG (rnk (jop k)) st).1.map bop))
  else if k = 41 ∧ 0 ∈ st then .inl (1, 0, (popG 3 (popG 1 st).2.tail).2, de - nng (popG 1 st).1 - 1 - nng (popG 3 (popG 1 st).2.tail).1, sg, out ++ (popG 1 st).1.map bop ++ (popG 3 (popG 1 st).2.tail).1.map bop)
  else if 0 ∈ st then .inr (false, out)
  else .inr (true, out ++ (popG 1 st).1.map bop)
def stp0 (st : List Nat) (de sg : Nat) (out : List Op) (c : Tok) : XS ⊕ (Bool × List Op) :=
  if c.1 = 40 ∨ c.1 = 45 then (if 8 ≤ de then .inr (false, out) else .inl (0, 0, (if c.1 = 40 then 0 else 7) :: st, de + 1, sg, out))
  else if c.1 = 129 then .inl (aft st de sg out (1, c.2.1, 0, c.2.2))
  else if c.1 = 138 then .inl (aft st de sg out (4, c.2.1, 0, 0))
  else if c.1 = 139 then .inl (aft st de sg out (5, c.2.1, 0, 0))
  else if c.1 = 140 then .inl (aft st de sg out (6, c.2.1, 0, 0))
  else if c.1 = 128 then .inl (2, c.2.1, st, de, sg, out)
  else .inr (false, out)
def stp (S : XS) (c : Tok) : XS ⊕ (Bool × List Op) := match S with
  | (0, _, st, de, sg, out) => stp0 st de sg out c
  | (1, _, st, de, sg, out) => stp1 st de sg out c.1
  | (2, p, st, de, sg, out) => if c.1 = 46 then .inl (3, p, st, de, sg, out) else stp1 (aft st de sg out (2, p, 0, 0)).2.2.1 (aft st de sg out (2, p, 0, 0)).2.2.2.1 sg (aft st de sg out (2, p, 0, 0)).2.2.2.2.2 c.1
  | (_, p, st, de, sg, out) => if c.1 = 128 then .inl (aft st de sg out (3, p, c.2.1, 0)) else .inr (false, out)
def pE : XS → List Tok → Bool × List Op × List Tok
  | _, [] => (false, [], [])
  | S, c :: rs => match stp S c with
    | .inl S1 => pE S1 rs
    | .inr q => (q.1, q.2, c :: rs)
theorem pE_go {S S1 : XS} {c : Tok} {rs : List Tok} (h : stp S c = .inl S1) : pE S (c :: rs) = pE S1 rs := by rw [pE, h]
theorem pE_end {S : XS} {c : Tok} {rs : List Tok} {q : Bool × List Op} (h : stp S c = .inr q) : pE S (c :: rs) = (q.1, q.2, c :: rs) := by rw [pE, h]
/-- the shape of what waits: in a level each is weaker than what waits above it -/
def okS : Nat → List Nat → Prop
  | _, [] => True
  | r, x :: l => if x = 0 then okS 3 l else if x = 7 then okS r l else rnk x < r ∧ 0 < rnk x ∧ okS (rnk x) l
def opn : List Nat → Nat
  | [] => 0
  | x :: l => (if x = 0 then 1 else 0) + opn l
theorem okS_len : ∀ (st : List Nat) (r : Nat), 1 ≤ r → r ≤ 3 → okS r st → st.length ≤ opn st + nng st + (r - 1) + 2 * opn st := by
  intro st
  induction st with
  | nil => intro r _ _ _; simp
  | cons x l ih =>
    intro r h1 h3 h
    simp only [okS] at h
    simp only [opn, nng, List.length_cons]
    by_cases hx : x = 0
    · rw [if_pos hx] at h
      have := ih 3 (by omega) (by omega) h
      simp [hx]
      omega
    · rw [if_neg hx] at h
      by_cases h7 : x = 7
      · rw [if_pos h7] at h
        have := ih r h1 h3 h
        simp [h7]
        omega
      · rw [if_neg h7] at h
        have := ih (rnk x) h.2.1 (by omega) h.2.2
        simp [hx, h7]
        omega
theorem okS_mono : ∀ (st : List Nat) (r s : Nat), r ≤ s → okS r st → okS s st := by
  intro st
  induction st with
  | nil => intro r s _ _; trivial
  | cons x l ih =>
    intro r s hrs h
    simp only [okS] at h ⊢
    by_cases hx : x = 0
    · rw [if_pos hx] at h ⊢
      exact h
    · rw [if_neg hx] at h ⊢
      by_cases h7 : x = 7
      · rw [if_pos h7] at h ⊢
        exact ih r s hrs h
      · rw [if_neg h7] at h ⊢
        exact ⟨by omega, h.2⟩
theorem okS_pop : ∀ (st : List Nat) (r s : Nat), 0 < r → okS s st → okS s (popG r st).2 := by
  intro st
  induction st with
  | nil => intro r s _ _; trivial
  | cons x l ih =>
    intro r s hr h
    simp only [popG]
    split
    · rename_i q
      refine ih r s hr ?_
      simp only [okS] at h
      by_cases hx : x = 0
      · subst hx
        simp [rnk] at q
        omega
      · rw [if_neg hx] at h
        by_cases h7 : x = 7
        · rw [if_pos h7] at h
          exact h
        · rw [if_neg h7] at h
          exact okS_mono l _ _ (by omega) h.2.2
    · exact h
/-- behind a pop the top is weaker -/
theorem okS_top : ∀ (st : List Nat) (r s : Nat), 0 < r → r ≤ 2 → okS s st → okS r (popG r st).2 := by
  intro st
  induction st with
  | nil => intro r s _ _ _; trivial
  | cons x l ih =>
    intro r s hr h2 h
    simp only [popG]
    simp only [okS] at h
    by_cases hx : x = 0
    · subst hx
      rw [if_neg (by simp [rnk]; omega)]
      simp only [okS, if_true] at h ⊢
      exact h
    · rw [if_neg hx] at h
      by_cases h7 : x = 7
      · rw [if_pos h7] at h
        rw [if_pos (by simp [rnk, h7]; omega)]
        exact ih r s hr h2 h
      · rw [if_neg h7] at h
        split
        · exact ih r (rnk x) hr h2 h.2.2
        · simp only [okS, if_neg hx, if_neg h7]
          exact ⟨by omega, h.2.1, h.2.2⟩
theorem popG_app : ∀ (st : List Nat) (r : Nat), (popG r st).1 ++ (popG r st).2 = st := by
  intro st
  induction st with
  | nil => intro r; rfl
  | cons x l ih =>
    intro r
    simp only [popG]
    split
    · simp [ih r]
    · rfl
theorem opn_app : ∀ (a b : List Nat), opn (a ++ b) = opn a + opn b := by
  intro a b
  induction a with
  | nil => simp [opn]
  | cons x l ih => simp only [List.cons_append, opn, ih]; omega
theorem nng_app : ∀ (a b : List Nat), nng (a ++ b) = nng a + nng b := by
  intro a b
  induction a with
  | nil => simp [nng]
  | cons x l ih => simp only [List.cons_append, nng, ih]; omega
theorem popG_opn : ∀ (st : List Nat) (r : Nat), 0 < r → opn (popG r st).1 = 0 := by
  intro st
  induction st with
  | nil => intro r _; rfl
  | cons x l ih =>
    intro r hr
    simp only [popG]
    split
    · rename_i q
      have hx : x ≠ 0 := fun z => by subst z; simp [rnk] at q; omega
      simp only [opn, if_neg hx, ih r hr]
    · rfl
theorem opn_mem : ∀ (st : List Nat), 0 ∈ st ↔ 0 < opn st := by
  intro st
  induction st with
  | nil => simp [opn]
  | cons x l ih =>
    simp only [List.mem_cons, opn, ih]
    by_cases hx : x = 0
    · simp [hx]; omega
    · simp [hx, Ne.symm hx]
