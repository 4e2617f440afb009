/-! ===== L2: names that are the same; the least fault ===== -/
theorem sm_iff {B B' : Nat → Int32} : ∀ (n p q : Nat), sm B B' p q n = true ↔ ∀ k, k < n → B (p + k) = B' (q + k) := by
  intro n
  induction n with
  | zero => intro p q; simp [sm]
  | succ n ih =>
    intro p q
    rw [sm]
    by_cases h : B p = B' q
    · rw [if_pos h, ih]
      constructor
      · intro z k hk
        cases k with
        | zero => exact h
        | succ k =>
          have := z k (by omega)
          rw [show p + (k + 1) = p + 1 + k by omega, show q + (k + 1) = q + 1 + k by omega]
          exact this
      · intro z k hk
        have := z (k + 1) (by omega)
        rw [show p + (k + 1) = p + 1 + k by omega, show q + (k + 1) = q + 1 + k by omega] at this
        exact this
    · rw [if_neg h]
      constructor
      · intro z; exact absurd z ff
      · intro z; exact absurd (z 0 (by omega)) h
def NE (B : Nat → Int32) (p q : Nat) : Prop := nl B p = nl B q ∧ ∀ k, k < nl B p → B (p + k) = B (q + k)
theorem nm_iff {B : Nat → Int32} {p q : Nat} : nmEq B p q = true ↔ NE B p q := by
  unfold nmEq NE
  rw [Bool.and_eq_true, sm_iff, decide_eq_true_iff]
  exact ⟨fun h => ⟨h.2.symm, h.1⟩, fun h => ⟨h.2, h.1.symm⟩⟩
theorem NE.rf {B : Nat → Int32} (p : Nat) : NE B p p := ⟨rfl, fun _ _ => rfl⟩
theorem NE.sy {B : Nat → Int32} {p q : Nat} (h : NE B p q) : NE B q p := ⟨h.1.symm, fun k hk => (h.2 k (by rw [h.1]; exact hk)).symm⟩
theorem NE.tr {B : Nat → Int32} {p q r : Nat} (h : NE B p q) (h2 : NE B q r) : NE B p r := ⟨h.1.trans h2.1, fun k hk => (h.2 k hk).trans (h2.2 k (by rw [← h.1]; exact hk))⟩
theorem nm_sy {B : Nat → Int32} (p q : Nat) : nmEq B p q = nmEq B q p := by
  rw [Bool.eq_iff_iff, nm_iff, nm_iff]
  exact ⟨NE.sy, NE.sy⟩
theorem fst_some {B : Nat → Int32} {p : Nat} {nm : Nat → Nat} : ∀ (f k i : Nat), fstN B p nm f k = some i ↔ (k ≤ i ∧ i < k + f ∧ NE B p (nm i) ∧ ∀ j, k ≤ j → j < i → ¬ NE B p (nm j)) := by
  intro f
  induction f with
  | zero => intro k i; simp [fstN]; intro a b; omega
  | succ f ih =>
    intro k i
    rw [fstN]
    by_cases h : nmEq B p (nm k) = true
    · rw [if_pos h]
      have hn := nm_iff.mp h
      constructor
      · intro z
        cases z
        exact ⟨Nat.le_refl _, by omega, hn, fun j a b => by omega⟩
      · intro ⟨a, b, c, d⟩
        by_cases e : i = k
        · rw [e]
        · exact absurd hn (d k (Nat.le_refl _) (by omega))
    · rw [if_neg h, ih]
      have hn : ¬ NE B p (nm k) := fun z => h (nm_iff.mpr z)
      constructor
      · intro ⟨a, b, c, d⟩
        refine ⟨by omega, by omega, c, fun j j1 j2 => ?_⟩
        by_cases e : j = k
        · rw [e]; exact hn
        · exact d j (by omega) j2
      · intro ⟨a, b, c, d⟩
        have : i ≠ k := fun e => hn (by rw [← e]; exact c)
        exact ⟨by omega, by omega, c, fun j j1 j2 => d j (by omega) j2⟩
theorem fst_none {B : Nat → Int32} {p : Nat} {nm : Nat → Nat} : ∀ (f k : Nat), fstN B p nm f k = none ↔ ∀ j, k ≤ j → j < k + f → ¬ NE B p (nm j) := by
  intro f
  induction f with
  | zero => intro k; simp [fstN]; intro j a b; omega
  | succ f ih =>
    intro k
    rw [fstN]
    by_cases h : nmEq B p (nm k) = true
    · rw [if_pos h]
      constructor
      · intro z; simp at z
      · intro z; exact absurd (nm_iff.mp h) (z k (Nat.le_refl _) (by omega))
    · rw [if_neg h, ih]
      have hn : ¬ NE B p (nm k) := fun z => h (nm_iff.mpr z)
      constructor
      · intro z j j1 j2
        by_cases e : j = k
        · rw [e]; exact hn
        · exact z j (by omega) (by omega)
      · intro z j j1 j2
        exact z j (by omega) (by omega)
/-- the first of a row of places whose name is the one at p -/
def fn (B : Nat → Int32) (p : Nat) (l : List Nat) : Option Nat := fstN B p (fun i => l.getD i 0) l.length 0
theorem fn_some {B : Nat → Int32} {p i : Nat} {l : List Nat} : fn B p l = some i ↔ ∃ q, l[i]? = some q ∧ NE B p q ∧ ∀ j x, j < i → l[j]? = some x → ¬ NE B p x := by
  unfold fn
  rw [fst_some]
  constructor
  · intro ⟨a, b, c, d⟩
    have hi : i < l.length := by omega
    have e : l[i]? = some (l.getD i 0) := by rw [List.getD_eq_getElem?_getD, List.getElem?_eq_getElem hi]; rfl
    refine ⟨_, e, c, fun j x hj hx => ?_⟩
    have := d j (by omega) hj
    rw [List.getD_eq_getElem?_getD, hx] at this
    exact this
  · intro ⟨q, a, b, c⟩
    have hi := get_lt a
    refine ⟨by omega, by omega, by rw [List.getD_eq_getElem?_getD, a]; exact b, fun j j1 j2 => ?_⟩
    have e : l[j]? = some (l.getD j 0) := by rw [List.getD_eq_getElem?_getD, List.getElem?_eq_getElem (show j < l.length by omega)]; rfl
    exact c j _ j2 e
theorem fn_none {B : Nat → Int32} {p : Nat} {l : List Nat} : fn B p l = none ↔ ∀ q ∈ l, ¬ NE B p q := by
  unfold fn
  rw [fst_none]
  constructor
  · intro z q hq
    obtain ⟨j, hj⟩ := List.getElem?_of_mem hq
    have := z j (by omega) (by have := get_lt hj; omega)
    rw [List.getD_eq_getElem?_getD, hj] at this
    exact this
  · intro z j j1 j2
    have e : l[j]? = some (l.getD j 0) := by rw [List.getD_eq_getElem?_getD, List.getElem?_eq_getElem (show j < l.length by omega)]; rfl
    exact z _ (List.mem_of_getElem? e)
/-- same names have the same first one -/
theorem fn_cg {B : Nat → Int32} {p q : Nat} {l : List Nat} (h : NE B p q) : fn B p l = fn B q l := by
  cases e : fn B q l with
  | none =>
    rw [fn_none] at e ⊢
    exact fun x hx z => e x hx (h.sy.tr z)
  | some i =>
    rw [fn_some] at e ⊢
    obtain ⟨y, a, b, c⟩ := e
    exact ⟨y, a, h.tr b, fun j x hj hx z => c j x hj hx (h.sy.tr z)⟩
theorem fn_lt {B : Nat → Int32} {p i : Nat} {l : List Nat} (h : fn B p l = some i) : i < l.length := by
  obtain ⟨q, a, -⟩ := fn_some.mp h
  exact get_lt a
/-! the least of what is noted -/
def lx (a b : Nat × Nat) : Prop := a.2 < b.2 ∨ (a.2 = b.2 ∧ a.1 ≤ b.1)
theorem lx.rf (a : Nat × Nat) : lx a a := Or.inr ⟨rfl, Nat.le_refl _⟩
theorem lx.tr {a b c : Nat × Nat} (h : lx a b) (h2 : lx b c) : lx a c := by
  unfold lx at *
  omega
def MF (S : Nat × Nat → Prop) (F : Nat × Nat) : Prop := (F.1 = 0 ∧ ∀ q, ¬ S q) ∨ (F.1 ≠ 0 ∧ S F ∧ ∀ q, S q → lx F q)
theorem MF.cg {S S' : Nat × Nat → Prop} {F : Nat × Nat} (h : MF S F) (e : ∀ q, S q ↔ S' q) : MF S' F := by
  rcases h with ⟨a, b⟩ | ⟨a, b, c⟩
  · exact Or.inl ⟨a, fun q z => b q ((e q).mpr z)⟩
  · exact Or.inr ⟨a, (e F).mp b, fun q z => c q ((e q).mpr z)⟩
theorem MF.note {S : Nat × Nat → Prop} {F q : Nat × Nat} (h : MF S F) (hq : q.1 ≠ 0) : MF (fun x => S x ∨ x = q) (ntF F q) := by
  unfold ntF
  by_cases z : F.1 = 0 ∨ q.2 < F.2 ∨ (q.2 = F.2 ∧ q.1 < F.1)
  · rw [if_pos z]
    refine Or.inr ⟨hq, Or.inr rfl, fun x hx => ?_⟩
    rcases hx with hx | hx
    · rcases h with ⟨a, b⟩ | ⟨a, b, c⟩
      · exact absurd hx (b x)
      · have := c x hx
        unfold lx at *
        omega
    · rw [hx]
      exact lx.rf q
  · rw [if_neg z]
    rcases h with ⟨a, b⟩ | ⟨a, b, c⟩
    · exact absurd (Or.inl a) z
    · refine Or.inr ⟨a, Or.inl b, fun x hx => ?_⟩
      rcases hx with hx | hx
      · exact c x hx
      · rw [hx]
        unfold lx
        omega
theorem MF.eq {S S' : Nat × Nat → Prop} {F F' : Nat × Nat} (h : MF S F) (h' : MF S' F') (d1 : ∀ q, S q → ∃ q', S' q' ∧ lx q' q) (d2 : ∀ q, S' q → ∃ q', S q' ∧ lx q' q) : F.1 = F'.1 ∧ (F.1 ≠ 0 → F = F') := by
  rcases h with ⟨a, b⟩ | ⟨a, b, c⟩ <;> rcases h' with ⟨a', b'⟩ | ⟨a', b', c'⟩
  · exact ⟨by omega, fun z => absurd a z⟩
  · obtain ⟨q, x, -⟩ := d2 F' b'
    exact absurd x (b q)
  · obtain ⟨q, x, -⟩ := d1 F b
    exact absurd x (b' q)
  · obtain ⟨q, x, y⟩ := d1 F b
    obtain ⟨q', x', y'⟩ := d2 F' b'
    have z1 := (c' q x).tr y
    have z2 := (c q' x').tr y'
    have : F = F' := by
      unfold lx at z1 z2
      obtain ⟨f1, f2⟩ := F
      obtain ⟨g1, g2⟩ := F'
      simp only at z1 z2
      rw [show f1 = g1 by omega, show f2 = g2 by omega]
    exact ⟨by rw [this], fun _ => this⟩
theorem MF.fold : ∀ (N : List (Nat × Nat)) {S : Nat × Nat → Prop} {F : Nat × Nat}, MF S F → (∀ q ∈ N, q.1 ≠ 0) → MF (fun x => S x ∨ x ∈ N) (N.foldl ntF F) := by
  intro N
  induction N with
  | nil => intro S F h _; exact h.cg (fun q => by simp)
  | cons a N ih =>
    intro S F h hN
    have := ih (h.note (hN a (by simp))) (fun q hq => hN q (by simp [hq]))
    exact this.cg (fun q => by rw [List.mem_cons]; exact or_assoc)
theorem MF.nil : MF (fun _ => False) (0, 0) := Or.inl ⟨rfl, fun _ z => z⟩
