/-! ===== L2: the Binder's one step ===== -/
def hit (B : Nat → Int32) (P : List Enm) (e c i : Nat) (x : Nat × Ko) : Prop := x.2.2.1 = e ∧ x.2.2.2.2 = c ∧ ∃ E, P[e]? = some E ∧ fn B x.2.1.2.1 (mbp E) = some i
/-- the code that each give has, by its first one -/
def GP (B : Nat → Int32) (P : List Enm) (L : List (Nat × Ko)) (gc : Nat → Nat → Nat → Int32) : Prop := ∀ e c i, (gc e c i = -1 ∧ ∀ x ∈ L, ¬ hit B P e c i x) ∨ ∃ (g : Nat) (x : Nat × Ko), L[g]? = some x ∧ hit B P e c i x ∧ (∀ (j : Nat) (y : Nat × Ko), j < g → L[j]? = some y → ¬ hit B P e c i y) ∧ gc e c i = nI (x.1 + 1) ∧ x.1 < 2000
def wkd (E : Enm) (f : Nat) : Bool := match (fls E.2.2)[f]? with
  | some y => decide (y.1 = 7)
  | none => false
def bcd (B : Nat → Int32) (P : List Enm) (q : Ko) : Int64 :=
  if q.1.1 = 2 then (match P[q.2.1]? with
    | none => encK q
    | some E => match fn B q.1.2.1 (flp E) with
      | none => encK q
      | some f => if q.2.2.1 = 2 ∧ wkd E f = true then encK q else lN (f * 16 + 2))
  else if q.1.1 = 3 then (match cst B P q.1.2.1 q.1.2.2.1 with
    | none => encK q
    | some x => lN ((x.1 * 12 + x.2) * 16 + 3))
  else encK q
/-- what a name in an exp has wrong -/
def rB (B : Nat → Int32) (P : List Enm) (q : Ko) (n : Nat × Nat) : Prop := (q.1.1 = 2 ∧ ∃ E, P[q.2.1]? = some E ∧ ((fn B q.1.2.1 (flp E) = none ∧ n = (6, q.1.2.1)) ∨ ∃ f y, fn B q.1.2.1 (flp E) = some f ∧ q.2.2.1 = 2 ∧ (fls E.2.2)[f]? = some y ∧ y.1 = 7 ∧ n = (5, q.1.2.1))) ∨ (q.1.1 = 3 ∧ cst B P q.1.2.1 q.1.2.2.1 = none ∧ n = (6, q.1.2.1))
def cO (B : Nat → Int32) (K : List Ko) (P : List Enm) (j : Nat) (q : Ko) (n : Nat × Nat) : Prop := (q.1.1 = 14 ∧ ∃ E, P[q.2.1]? = some E ∧ ((fn B q.1.2.1 (mbp E) = none ∧ n = (3, q.1.2.1)) ∨ ∃ i, fn B q.1.2.1 (mbp E) = some i ∧ (∃ y ∈ gvi 0 (K.take j), hit B P q.2.1 q.2.2.2 i y) ∧ n = (2, q.1.2.1))) ∨ rB B P q n
def BR (m : MM) (n pg : Nat) (s : BS) : Prop := gR m (n + 209) 0 = some pg ∧ gR m (n + 209) 1 = some (n + 203) ∧ gR m (n + 209) 2 = (if s.1 = 0 then none else some (pg + 4 + 12 * (s.1 - 1))) ∧ gI m (n + 209) 3 = nI s.2.1 ∧ gI m (n + 209) 4 = bz s.2.2
def OB (m m1 : MM) (n pg : Nat) : Prop := (∀ a, a ≠ n + 203 → a ≠ n + 209 → (∀ e, e < 8 → a ≠ pg + 4 + 12 * e + 4) → m1.1 a = m.1 a) ∧ (∀ a, a ≠ pg + 3 → a ≠ n + 203 → m1.2.1 a = m.2.1 a) ∧ ∀ a, a ≠ n + 209 → m1.2.2 a = m.2.2 a
theorem OB.rf {m : MM} {n pg : Nat} : OB m m n pg := ⟨fun _ _ _ _ => rfl, fun _ _ _ => rfl, fun _ _ => rfl⟩
theorem OB.tr {m m1 m2 : MM} {n pg : Nat} (h : OB m m1 n pg) (h2 : OB m1 m2 n pg) : OB m m2 n pg := ⟨fun a x y z => (h2.1 a x y z).trans (h.1 a x y z), fun a x y => (h2.2.1 a x y).trans (h.2.1 a x y), fun a x => (h2.2.2 a x).trans (h.2.2 a x)⟩
theorem Off.ob {m m1 : MM} {n pg : Nat} (h : Off m m1 [n + 203]) (r : m1.2.2 = m.2.2) : OB m m1 n pg := ⟨fun a x y z => (h a (by simp; exact x)).1, fun a x y => (h a (by simp; exact y)).2.1, fun a x => by rw [r]⟩
theorem BR.off {m m1 : MM} {n pg : Nat} {s : BS} (h : BR m n pg s) (o : Off m m1 [n + 203]) : BR m1 n pg s := by
  obtain ⟨h1, h2, h3, h4, h5⟩ := h
  exact ⟨by rw [o.R (by simp)]; exact h1, by rw [o.R (by simp)]; exact h2, by rw [o.R (by simp)]; exact h3, by rw [o.I (by simp)]; exact h4, by rw [o.I (by simp)]; exact h5⟩
def opa (q : Ko) : Nat := if 12 ≤ q.1.1 then (if q.1.1 = 14 then q.1.2.1 else q.1.2.2.2) else if q.1.1 = 1 then q.1.2.2.2 else if q.1.1 = 2 then q.1.2.1 else if q.1.1 = 3 then q.1.2.1 * 4096 + q.1.2.2.1 else 0
theorem encK_a (q : Ko) : encK q = lN (opa q * 16 + q.1.1) := by
  unfold encK opa encOp
  by_cases h : 12 ≤ q.1.1
  · rw [if_pos h, if_pos h]
    by_cases h2 : q.1.1 = 14
    · rw [if_pos h2, if_pos h2, h2]
    · rw [if_neg h2, if_neg h2]
  · rw [if_neg h, if_neg h]
theorem opa_lt {n : Nat} {K : List Ko} {q : Ko} (h : KB n K) (hq : q ∈ K) : opa q < 1000000000 ∧ q.1.1 < 16 := by
  obtain ⟨a1, a2, a3, a4, a5, a6⟩ := h q hq
  refine ⟨?_, by omega⟩
  unfold opa
  by_cases h1 : 12 ≤ q.1.1
  · rw [if_pos h1]
    by_cases h2 : q.1.1 = 14
    · rw [if_pos h2]; have := a3 h2; omega
    · rw [if_neg h2]; have := a5 h1; omega
  · rw [if_neg h1]
    by_cases h2 : q.1.1 = 0
    · rw [if_neg (by omega), if_neg (by omega), if_neg (by omega)]; omega
    · obtain ⟨o1, o2, o3, o4, o5⟩ := a2 (by omega) (by omega)
      (repeat' split) <;> omega
theorem set_same {α : Type} {l : List α} {k : Nat} {v : α} (h : l[k]? = some v) : l.set k v = l := by
  apply List.ext_getElem?
  intro j
  by_cases z : j = k
  · rw [z, List.getElem?_set_self (get_lt h), h]
  · rw [List.getElem?_set_ne (fun w => z w.symm)]
/-- one item more, and no give -/
theorem gvi_take {K : List Ko} {k : Nat} {q : Ko} (h : K[k]? = some q) : gvi 0 (K.take (k + 1)) = gvi 0 (K.take k) ++ (if q.1.1 = 14 then [(k, q)] else []) := by
  have hk := get_lt h
  have e : K.take (k + 1) = K.take k ++ [q] := by
    rw [List.take_add_one, h]
    rfl
  rw [e, gvi_app, List.length_take, Nat.min_eq_left (by omega), Nat.zero_add]
  simp only [gvi]
/-- the outcome of a step -/
def SB (G : GG) (m : MM) (n pg tp len : Nat) (B : Nat → Int32) (P : List Enm) (K : List Ko) (k : Nat) (C : List Int64) (s : BS) (X : Option (Unit × MM)) (S : Nat × Nat → Prop) : Prop := ∃ m1 F1 gc1, X = some ((), m1) ∧ CV G m1 pg tp len B P C gc1 ∧ BR m1 n pg s ∧ FS m1 (n + 203) F1 ∧ MF S F1 ∧ GP B P (gvi 0 (K.take (k + 1))) gc1 ∧ OB m m1 n pg
theorem cv_note {G : GG} {m : MM} {n pg tp len k p : Nat} {B : Nat → Int32} {P : List Enm} {C : List Int64} {gc : Nat → Nat → Nat → Int32} {F : Nat × Nat} {S : Nat × Nat → Prop} {s : BS} (hN : PN n pg) (htp : tp = n + 201 ∨ tp = n + 214) (h : CV G m pg tp len B P C gc) (hb : BR m n pg s) (hF : FS m (n + 203) F) (hM : MF S F) (hk : k < 100) (h0 : k ≠ 0) (hp : p < 4096) : ∃ m1, M_X3_note G (n + 203) (nI k) (nI p) m = some ((), m1) ∧ CV G m1 pg tp len B P C gc ∧ BR m1 n pg s ∧ FS m1 (n + 203) (ntF F (k, p)) ∧ MF (fun x => S x ∨ x = (k, p)) (ntF F (k, p)) ∧ OB m m1 n pg ∧ Off m m1 [n + 203] := by
  unfold PN at hN
  obtain ⟨m1, e1, e2, e3, e4⟩ := fs_note (G := G) hF hk (show p < 100000 by omega)
  exact ⟨m1, e1, h.off e3 (by simp; omega), hb.off e3, e2, hM.note h0, e3.ob e4, e3⟩
theorem bind_give {G : GG} {m : MM} {n pg tp len k : Nat} {B : Nat → Int32} {P : List Enm} {K : List Ko} {C : List Int64} {gc : Nat → Nat → Nat → Int32} {F : Nat × Nat} {S : Nat × Nat → Prop} {s : BS} {q : Ko} (hN : PN n pg) (htp : tp = n + 201 ∨ tp = n + 214) (h : CV G m pg tp len B P C gc) (hb : BR m n pg s) (hF : FS m (n + 203) F) (hM : MF S F) (hG : GP B P (gvi 0 (K.take k)) gc) (hk : K[k]? = some q) (hKl : K.length ≤ 2000) (h14 : q.1.1 = 14) (hs1 : s.1 = q.2.1 + 1) (hs2 : s.2.1 = q.2.2.2) (hp : q.1.2.1 < 4096) (hE : ∃ E, P[q.2.1]? = some E ∧ q.2.2.2 < E.2.1.length) : SB G m n pg tp len B P K k C s (M_X0_bindGive G (n + 209) (nI k) (nI q.1.2.1) m) (fun x => S x ∨ cO B K P k q x) := by
  have hN2 := hN
  unfold PN at hN2
  obtain ⟨E, hE, hc⟩ := hE
  have hkl := get_lt hk
  obtain ⟨b1, b2, b3, b4, b5, b6, b7⟩ := pb_en h.2.2.2.2.2.1 hE
  obtain ⟨r1, r2, r3, r4, r5⟩ := id hb
  have he := get_lt hE
  rw [if_neg (by omega), show s.1 - 1 = q.2.1 by omega] at r3
  have hgt := gvi_take hk
  rw [if_pos h14] at hgt
  unfold M_X0_bindGive
  rw [el_e r3, nb_e r1, nb_e h.2.1, nb_e (cv_le h he 4 (by omega)).1, show pg + 4 + 12 * q.2.1 + 1 + 4 = pg + 4 + 12 * q.2.1 + 5 by omega, bd_e (cv_mem h hE hp)]
  have hcO : ∀ x, cO B K P k q x ↔ ((fn B q.1.2.1 (mbp E) = none ∧ x = (3, q.1.2.1)) ∨ ∃ i, fn B q.1.2.1 (mbp E) = some i ∧ (∃ y ∈ gvi 0 (K.take k), hit B P q.2.1 q.2.2.2 i y) ∧ x = (2, q.1.2.1)) := fun x => by
    constructor
    · intro w
      rcases w with ⟨-, E', hE', w⟩ | ⟨w, -⟩ | ⟨w, -⟩
      · rw [hE] at hE'
        cases hE'
        exact w
      · omega
      · omega
    · intro w
      exact Or.inl ⟨h14, E, hE, w⟩
  cases hf : fn B q.1.2.1 (mbp E) with
  | none =>
    rw [if_pos (show oI none = -1 from rfl), nb_e r2]
    obtain ⟨m1, e1, e2, e3, e4, e5, e6, e7⟩ := cv_note (k := 3) hN htp h hb hF hM (by omega) (by omega) hp
    rw [show (3 : Int32) = nI 3 from rfl, bd_e e1]
    refine ⟨m1, _, gc, rfl, e2, e3, e4, e5.cg (fun x => by rw [hcO]; simp [hf]), fun e c i => ?_, e6⟩
    have nh : ¬ hit B P e c i (k, q) := fun ⟨x1, x2, E', x3, x4⟩ => by
      have x1 : q.2.1 = e := x1
      subst x1
      rw [hE] at x3
      cases x3
      have x4 : fn B q.1.2.1 (mbp E) = some i := x4
      rw [hf] at x4
      simp at x4
    rw [hgt]
    rcases hG e c i with ⟨y1, y2⟩ | ⟨g, x, y1, y2, y3, y4, y5⟩
    · refine Or.inl ⟨y1, fun x hx => ?_⟩
      rcases List.mem_append.mp hx with z | z
      · exact y2 x z
      · rw [List.mem_singleton] at z
        rw [z]
        exact nh
    · exact Or.inr ⟨g, x, by rw [List.getElem?_append_left (get_lt y1)]; exact y1, y2, fun j y hj hy => y3 j y hj (by rw [List.getElem?_append_left (by have := get_lt y1; omega)] at hy; exact hy), y4, y5⟩
  | some i =>
    have hi := fn_lt hf
    simp only [mbp, List.length_map] at hi
    have hit1 : hit B P q.2.1 q.2.2.2 i (k, q) := ⟨rfl, rfl, E, hE, hf⟩
    rw [if_neg (show ¬ oI (some i) = -1 from fun w => nI_pos (n := i) (by omega) (by rw [show nI i = -1 from w]; decide)), nb_e r3, r4, hs2, show oI (some i) = nI i from rfl, bd_e (cv_give h hE hc hi)]
    rcases hG q.2.1 q.2.2.2 i with ⟨y1, y2⟩ | ⟨g, x, y1, y2, y3, y4, y5⟩
    · -- the first give of it
      have hl := cv_le h he 3 (by omega)
      have hz : G.2.2 (pg + 4 + 12 * q.2.1 + 1 + 3) = 96 := hl.2
      rw [if_pos y1, nb_e r3, r4, hs2, bd_e (cv_hasC h hE hc), if_pos rfl, nb_e r3, nb_e hl.1, hz, r4, hs2, show (8 : Int32) = nI 8 from rfl, pk_mul, nI_add, ib_n (by omega) (by omega), nI_clamp (by omega), nI_1, show pg + 4 + 12 * q.2.1 + 1 + 3 = pg + 4 + 12 * q.2.1 + 4 by omega]
      obtain ⟨m1, em⟩ : ∃ m1, sI m (pg + 4 + 12 * q.2.1 + 4) (q.2.2.2 * 8 + i) (nI (k + 1)) = m1 := ⟨_, rfl⟩
      rw [em]
      have of : Off m m1 [pg + 4 + 12 * q.2.1 + 4] := by rw [← em]; exact Off.sI
      have orr : m1.2.2 = m.2.2 := by rw [← em]; rfl
      have ol : m1.2.1 = m.2.1 := by rw [← em]; rfl
      have gL1 : ∀ a j, gL m1 a j = gL m a j := fun a j => by rw [← em]; rfl
      have gR1 : ∀ a j, gR m1 a j = gR m a j := fun a j => by rw [← em]; rfl
      refine ⟨m1, F, fun e' c' i' => if e' = q.2.1 ∧ c' = q.2.2.2 ∧ i' = i then nI (k + 1) else gc e' c' i', rfl, ?_, ?_, ?_, hM.cg (fun x => ?_), fun e c j => ?_, ?_⟩
      · obtain ⟨g1, g2, g3, g4, g5, g6, g7⟩ := id h
        refine ⟨g1.eq orr, by rw [gR1]; exact g2, g3.kept of (by simp; omega) (by simp; omega), ?_, by rw [of.I (by simp; omega)]; exact g5, g6, fun e' E' hE' => ?_⟩
        · obtain ⟨a1, a2, a3, a4, a5⟩ := g4
          exact ⟨by rw [gR1]; exact a1, a2, by rw [of.I (by simp; omega)]; exact a3, a4, fun j v hj => by rw [gL1]; exact a5 j v hj⟩
        · obtain ⟨a1, a2, a3⟩ := g7 e' E' hE'
          have he' := get_lt hE'
          refine ⟨by rw [of.I (by simp; omega)]; exact a1, a2.kept (fun j _ _ => of.I (by simp; omega) j) (fun j hj => (of _ (by simp; omega)).1), fun c' i' hc' hi' => ?_⟩
          dsimp only
          by_cases w : e' = q.2.1 ∧ c' = q.2.2.2 ∧ i' = i
          · rw [if_pos w, w.1, w.2.1, w.2.2, ← em, gI_sI_eq]
          · rw [if_neg w, ← em, gI_sI_ne (by omega)]
            exact a3 c' i' hc' hi'
      · exact ⟨by rw [gR1]; exact r1, by rw [gR1]; exact r2, by rw [gR1]; exact hb.2.2.1, by rw [of.I (by simp; omega)]; exact r4, by rw [of.I (by simp; omega)]; exact r5⟩
      · exact hF.kept of (by simp; omega)
      · rw [hcO]
        constructor
        · exact Or.inl
        · intro w
          rcases w with w | ⟨w, -⟩ | ⟨i', w1, ⟨y, w2, w3⟩, -⟩
          · exact w
          · rw [hf] at w
            simp at w
          · rw [hf] at w1
            cases w1
            exact absurd w3 (y2 y w2)
      · rw [hgt]
        dsimp only
        by_cases w : e = q.2.1 ∧ c = q.2.2.2 ∧ j = i
        · obtain ⟨w1, w2, w3⟩ := w
          subst w1; subst w2; subst w3
          rw [if_pos ⟨rfl, rfl, rfl⟩]
          refine Or.inr ⟨(gvi 0 (K.take k)).length, (k, q), get_app, hit1, fun j' y hj' hy => ?_, rfl, by show k < 2000; omega⟩
          rw [List.getElem?_append_left hj'] at hy
          exact y2 y (List.mem_of_getElem? hy)
        · rw [if_neg w]
          have nh : ¬ hit B P e c j (k, q) := fun ⟨x1, x2, E', x3, x4⟩ => by
            have x1 : q.2.1 = e := x1
            have x2 : q.2.2.2 = c := x2
            rw [← x1, hE] at x3
            cases x3
            have x4 : fn B q.1.2.1 (mbp E) = some j := x4
            rw [hf] at x4
            cases x4
            exact w ⟨x1.symm, x2.symm, rfl⟩
          rcases hG e c j with ⟨u1, u2⟩ | ⟨g, x, u1, u2, u3, u4, u5⟩
          · refine Or.inl ⟨u1, fun x hx => ?_⟩
            rcases List.mem_append.mp hx with z | z
            · exact u2 x z
            · rw [List.mem_singleton] at z
              rw [z]
              exact nh
          · exact Or.inr ⟨g, x, by rw [List.getElem?_append_left (get_lt u1)]; exact u1, u2, fun j y hj hy => u3 j y hj (by rw [List.getElem?_append_left (by have := get_lt u1; omega)] at hy; exact hy), u4, u5⟩
      · exact ⟨fun a x y z => (of a (by simp; exact z _ b1)).1, fun a _ _ => by rw [ol], fun a _ => by rw [orr]⟩
    · -- one more
      rw [if_neg (fun w => nI_pos (n := x.1 + 1) (by omega) (by rw [← y4, w]; decide)), nb_e r2]
      obtain ⟨m1, e1, e2, e3, e4, e5, e6, e7⟩ := cv_note (k := 2) hN htp h hb hF hM (by omega) (by omega) hp
      rw [show (2 : Int32) = nI 2 from rfl, bd_e e1]
      have ex : ∃ y ∈ gvi 0 (K.take k), hit B P q.2.1 q.2.2.2 i y := ⟨x, List.mem_of_getElem? y1, y2⟩
      refine ⟨m1, _, gc, rfl, e2, e3, e4, e5.cg (fun z => ?_), fun e c j => ?_, e6⟩
      · rw [hcO]
        constructor
        · intro w
          exact w.imp id (fun w => Or.inr ⟨i, hf, ex, w⟩)
        · intro w
          rcases w with w | ⟨w, -⟩ | ⟨i', -, -, w⟩
          · exact Or.inl w
          · rw [hf] at w
            simp at w
          · exact Or.inr w
      · rw [hgt]
        rcases hG e c j with ⟨u1, u2⟩ | ⟨g', x', u1, u2, u3, u4, u5⟩
        · refine Or.inl ⟨u1, fun z hz => ?_⟩
          rcases List.mem_append.mp hz with w | w
          · exact u2 z w
          · rw [List.mem_singleton] at w
            rw [w]
            intro ⟨x1, x2, E', x3, x4⟩
            have x1 : q.2.1 = e := x1
            have x2 : q.2.2.2 = c := x2
            rw [← x1, hE] at x3
            cases x3
            have x4 : fn B q.1.2.1 (mbp E) = some j := x4
            rw [hf] at x4
            cases x4
            subst x1; subst x2
            exact u2 x (List.mem_of_getElem? y1) y2
        · exact Or.inr ⟨g', x', by rw [List.getElem?_append_left (get_lt u1)]; exact u1, u2, fun j y hj hy => u3 j y hj (by rw [List.getElem?_append_left (by have := get_lt u1; omega)] at hy; exact hy), u4, u5⟩
