/-! ===== L2: what a run is: starts, exps, their outcome ===== -/
/-- a run's state: states, how far, values, fields, the trace -/
abbrev Sg : Type := (Nat → Nat) × (Nat → Nat) × (Nat → Nat → Int32) × (Nat → Nat → Int32) × List Int32
def up (f : Nat → Nat) (e v : Nat) : Nat → Nat := fun x => if x = e then v else f x
def up2 (f : Nat → Nat → Int32) (e c : Nat) (v : Int32) : Nat → Nat → Int32 := fun x y => if x = e ∧ y = c then v else f x y
def tad (l : List Int32) (v : Int32) : List Int32 := if l.length < 200 then l ++ [v] else l
def trc (g : Sg) (v : Int32) : Sg := (g.1, g.2.1, g.2.2.1, g.2.2.2.1, tad g.2.2.2.2 v)
def stS (g : Sg) (e k : Nat) : Sg := (up g.1 e k, g.2)
def faS (g : Sg) (e k : Nat) : Sg := (g.1, up g.2.1 e k, g.2.2)
def vaS (g : Sg) (e c : Nat) (v : Int32) : Sg := (g.1, g.2.1, up2 g.2.2.1 e c v, g.2.2.2)
def flS (g : Sg) (e f : Nat) (v : Int32) : Sg := (g.1, g.2.1, g.2.2.1, up2 g.2.2.2.1 e f v, g.2.2.2.2)
/-- the exp at a place of the code -/
def seg (K : List Ko) (a : Nat) : List Ko := (K.drop a).takeWhile (fun q => !decide (q.1.1 = 0))
def rfd (B : Nat → Int32) (E : Enm) (q : Ko) : Nat := (fn B q.1.2.1 (flp E)).getD 0
def rct (B : Nat → Int32) (P : List Enm) (q : Ko) : Nat × Nat := (cst B P q.1.2.1 q.1.2.2.1).getD (0, 0)
def fvl (E : Enm) (g : Sg) (e f : Nat) : Int32 := match (fls E.2.2)[f]? with
  | some y => if y.1 = 8 then nI y.2.2.1 else g.2.2.2.1 e f
  | none => 0
def arg (E : Enm) (c : Nat) : Nat := match E.2.1[c]? with
  | some x => x.2.1
  | none => 0
def jn (o : Nat) (x y : Int32) : Int32 := if o = 8 then x + y else if o = 9 then x - y else if o = 10 then x * y else x / y
def xcn (c : Nat) (e' : Nat) (vs : List Int32) (r : Nat × Sg) : Nat × List Int32 × Sg :=
  if r.1 = 0 then (if r.2.1 e' = 3 ∧ r.2.2.1 e' ≤ c then (1, vs, r.2) else (0, r.2.2.2.1 e' c :: vs, r.2)) else (r.1, vs, r.2)
def xng (vs : List Int32) : List Int32 := match vs with
  | x :: l => (-x) :: l
  | [] => []
def xjn (o : Nat) (vs : List Int32) (g : Sg) : Nat × List Int32 × Sg := match vs with
  | y :: x :: l => if o = 11 ∧ y = 0 then (2, l, g) else (0, jn o x y :: l, g)
  | _ => (0, vs, g)
def xop (W : Nat → Sg → Nat × Sg) (B : Nat → Int32) (P : List Enm) (e : Nat) (E : Enm) (c : Nat) (q : Ko) (vs : List Int32) (g : Sg) : Nat × List Int32 × Sg :=
  if q.1.1 = 1 then (0, nI q.1.2.2.2 :: vs, g)
  else if q.1.1 = 2 then (0, fvl E g e (rfd B E q) :: vs, g)
  else if q.1.1 = 3 then xcn (rct B P q).2 (rct B P q).1 vs (W (rct B P q).1 g)
  else if q.1.1 = 4 then (0, nI (arg E c) :: vs, g)
  else if q.1.1 = 5 then (0, g.2.2.1 e c :: vs, g)
  else if q.1.1 = 6 then (0, nI c :: vs, g)
  else if q.1.1 = 7 then (0, xng vs, g)
  else xjn q.1.1 vs g
def xrun (W : Nat → Sg → Nat × Sg) (B : Nat → Int32) (P : List Enm) (e : Nat) (E : Enm) (c : Nat) : List Ko → List Int32 → Sg → Nat × List Int32 × Sg
  | [], vs, g => (0, vs, g)
  | q :: s, vs, g => if (xop W B P e E c q vs g).1 = 0 then xrun W B P e E c s (xop W B P e E c q vs g).2.1 (xop W B P e E c q vs g).2.2 else xop W B P e E c q vs g
def xhd (vs : List Int32) : Int32 := match vs with
  | x :: _ => x
  | [] => 0
/-- a constant is made -/
def mkd (e c : Nat) (v : Int32) (g : Sg) : Sg := trc (faS (vaS g e c v) e (c + 1)) (nI (1000 * e + 1 + c))
def mkr (W : Nat → Sg → Nat × Sg) (B : Nat → Int32) (P : List Enm) (K : List Ko) (e : Nat) (E : Enm) (c : Nat) (g : Sg) : Nat × Sg := match mks E.2.2 with
  | [] => (0, mkd e c 0 g)
  | q :: _ => if (xrun W B P e E c (seg K q.2.2.2) [] g).1 = 0 then (0, mkd e c (xhd (xrun W B P e E c (seg K q.2.2.2) [] g).2.1) (xrun W B P e E c (seg K q.2.2.2) [] g).2.2) else ((xrun W B P e E c (seg K q.2.2.2) [] g).1, (xrun W B P e E c (seg K q.2.2.2) [] g).2.2)
def mkl (W : Nat → Sg → Nat × Sg) (B : Nat → Int32) (P : List Enm) (K : List Ko) (e : Nat) (E : Enm) : Nat → Nat → Sg → Nat × Sg
  | 0, _, g => (0, g)
  | k + 1, c, g => if (mkr W B P K e E c g).1 = 0 then mkl W B P K e E k (c + 1) (mkr W B P K e E c g).2 else mkr W B P K e E c g
/-- a field is set -/
def sfl (W : Nat → Sg → Nat × Sg) (B : Nat → Int32) (P : List Enm) (K : List Ko) (e : Nat) (E : Enm) (f : Nat) (y : Mem) (g : Sg) : Nat × Sg :=
  if y.1 = 8 then (0, faS g e (E.2.1.length + f + 1))
  else if (xrun W B P e E 0 (seg K y.2.2.2) [] g).1 = 0 then (0, faS (flS (xrun W B P e E 0 (seg K y.2.2.2) [] g).2.2 e f (xhd (xrun W B P e E 0 (seg K y.2.2.2) [] g).2.1)) e (E.2.1.length + f + 1)) else ((xrun W B P e E 0 (seg K y.2.2.2) [] g).1, (xrun W B P e E 0 (seg K y.2.2.2) [] g).2.2)
def sfs (W : Nat → Sg → Nat × Sg) (B : Nat → Int32) (P : List Enm) (K : List Ko) (e : Nat) (E : Enm) : List Mem → Nat → Sg → Nat × Sg
  | [], _, g => (0, g)
  | y :: l, f, g => if (sfl W B P K e E f y g).1 = 0 then sfs W B P K e E l (f + 1) (sfl W B P K e E f y g).2 else sfl W B P K e E f y g
def bgn (e : Nat) (g : Sg) : Sg := trc (faS (stS g e 3) e 0) (nI (1000 * e))
def fal (e : Nat) (g : Sg) : Sg := trc (stS g e 2) (nI (1000 * e + 200))
def dne (e : Nat) (g : Sg) : Sg := trc (stS g e 1) (nI (1000 * e + 100))
def fin (e : Nat) (r : Nat × Sg) : Nat × Sg := if r.1 = 0 then (0, dne e r.2) else (r.1, fal e r.2)
def bdy (W : Nat → Sg → Nat × Sg) (B : Nat → Int32) (P : List Enm) (K : List Ko) (e : Nat) (E : Enm) (r : Nat × Sg) : Nat × Sg := if r.1 = 0 then sfs W B P K e E (fls E.2.2) 0 r.2 else r
def strt (W : Nat → Sg → Nat × Sg) (B : Nat → Int32) (P : List Enm) (K : List Ko) (e : Nat) (E : Enm) (g : Sg) : Nat × Sg := fin e (bdy W B P K e E (mkl W B P K e E E.2.1.length 0 (bgn e g)))
def wnt (B : Nat → Int32) (P : List Enm) (K : List Ko) : Nat → Nat → Sg → Nat × Sg
  | 0, _, g => (0, g)
  | D + 1, e, g => if g.1 e = 2 then (6, g) else if g.1 e = 0 then (match P[e]? with
      | some E => strt (wnt B P K D) B P K e E g
      | none => (0, g)) else (0, g)
/-! what a run keeps -/
def same (x : Nat) (g g1 : Sg) : Prop := g1.1 x = g.1 x ∧ g1.2.1 x = g.2.1 x ∧ (∀ c, g1.2.2.1 x c = g.2.2.1 x c) ∧ ∀ f, g1.2.2.2.1 x f = g.2.2.2.1 x f
theorem same.rf {x : Nat} {g : Sg} : same x g g := ⟨rfl, rfl, fun _ => rfl, fun _ => rfl⟩
theorem same.tr {x : Nat} {g g1 g2 : Sg} (h : same x g g1) (h2 : same x g1 g2) : same x g g2 := ⟨h2.1.trans h.1, h2.2.1.trans h.2.1, fun c => (h2.2.2.1 c).trans (h.2.2.1 c), fun f => (h2.2.2.2 f).trans (h.2.2.2 f)⟩
/-- what holds of one enumeration in a run -/
def I1 (E : Enm) (e : Nat) (g : Sg) : Prop := g.1 e ≤ 3 ∧ g.2.1 e ≤ E.2.1.length + (fls E.2.2).length ∧ (g.1 e = 0 → g.2.1 e = 0 ∧ ∀ f, g.2.2.2.1 e f = 0) ∧ (g.1 e = 1 → g.2.1 e = E.2.1.length + (fls E.2.2).length) ∧ (g.1 e = 3 → ∀ f, g.2.1 e ≤ E.2.1.length + f → g.2.2.2.1 e f = 0)
def ISg (P : List Enm) (g : Sg) : Prop := ∀ e E, P[e]? = some E → I1 E e g
theorem I1.sm {E : Enm} {e : Nat} {g g1 : Sg} (h : I1 E e g) (s : same e g g1) : I1 E e g1 := by
  obtain ⟨a1, a2, a3, a4⟩ := s
  obtain ⟨b1, b2, b3, b4, b5⟩ := h
  exact ⟨by rw [a1]; exact b1, by rw [a2]; exact b2, fun z => by rw [a1] at z; exact ⟨by rw [a2]; exact (b3 z).1, fun f => by rw [a4]; exact (b3 z).2 f⟩, fun z => by rw [a1] at z; rw [a2]; exact b4 z, fun z f hf => by rw [a1] at z; rw [a2] at hf; rw [a4]; exact b5 z f hf⟩
/-- a step of a run: what has begun is kept, what holds still holds -/
def GS (P : List Enm) (g g1 : Sg) : Prop := (∀ x, g.1 x ≠ 0 → same x g g1) ∧ (ISg P g → ISg P g1)
theorem GS.rf {P : List Enm} {g : Sg} : GS P g g := ⟨fun _ _ => same.rf, id⟩
theorem GS.tr {P : List Enm} {g g1 g2 : Sg} (h : GS P g g1) (h2 : GS P g1 g2) : GS P g g2 := ⟨fun x hx => (h.1 x hx).tr (h2.1 x (by rw [(h.1 x hx).1]; exact hx)), fun z => h2.2 (h.2 z)⟩
/-- the same, but for one enumeration that is in work -/
def GE (P : List Enm) (e : Nat) (g g1 : Sg) : Prop := (∀ x, x ≠ e → g.1 x ≠ 0 → same x g g1) ∧ g1.1 e = g.1 e ∧ (ISg P g → ISg P g1)
theorem GE.rf {P : List Enm} {e : Nat} {g : Sg} : GE P e g g := ⟨fun _ _ _ => same.rf, rfl, id⟩
theorem GE.tr {P : List Enm} {e : Nat} {g g1 g2 : Sg} (h : GE P e g g1) (h2 : GE P e g1 g2) : GE P e g g2 := ⟨fun x hn hx => (h.1 x hn hx).tr (h2.1 x hn (by rw [(h.1 x hn hx).1]; exact hx)), h2.2.1.trans h.2.1, fun z => h2.2.2 (h.2.2 z)⟩
theorem GS.ge {P : List Enm} {e : Nat} {g g1 : Sg} (h : GS P g g1) (he : g.1 e ≠ 0) : GE P e g g1 := ⟨fun x _ hx => h.1 x hx, (h.1 e he).1, h.2⟩
def HW (P : List Enm) (W : Nat → Sg → Nat × Sg) : Prop := ∀ e g, GS P g (W e g).2
theorem xop_gs {W : Nat → Sg → Nat × Sg} {B : Nat → Int32} {P : List Enm} {e c : Nat} {E : Enm} {q : Ko} {vs : List Int32} {g : Sg} (hW : HW P W) : GS P g (xop W B P e E c q vs g).2.2 := by
  unfold xop
  by_cases h1 : q.1.1 = 1
  · rw [if_pos h1]; exact GS.rf
  rw [if_neg h1]
  by_cases h2 : q.1.1 = 2
  · rw [if_pos h2]; exact GS.rf
  rw [if_neg h2]
  by_cases h3 : q.1.1 = 3
  · rw [if_pos h3]
    have := hW (rct B P q).1 g
    unfold xcn
    by_cases k : (W (rct B P q).1 g).1 = 0
    · rw [if_pos k]
      by_cases k2 : (W (rct B P q).1 g).2.1 (rct B P q).1 = 3 ∧ (W (rct B P q).1 g).2.2.1 (rct B P q).1 ≤ (rct B P q).2
      · rw [if_pos k2]; exact this
      · rw [if_neg k2]; exact this
    · rw [if_neg k]; exact this
  rw [if_neg h3]
  by_cases h4 : q.1.1 = 4
  · rw [if_pos h4]; exact GS.rf
  rw [if_neg h4]
  by_cases h5 : q.1.1 = 5
  · rw [if_pos h5]; exact GS.rf
  rw [if_neg h5]
  by_cases h6 : q.1.1 = 6
  · rw [if_pos h6]; exact GS.rf
  rw [if_neg h6]
  by_cases h7 : q.1.1 = 7
  · rw [if_pos h7]; exact GS.rf
  rw [if_neg h7]
  unfold xjn
  split
  · split
    · exact GS.rf
    · exact GS.rf
  · exact GS.rf
theorem xrun_gs {W : Nat → Sg → Nat × Sg} {B : Nat → Int32} {P : List Enm} {e c : Nat} {E : Enm} (hW : HW P W) : ∀ (s : List Ko) (vs : List Int32) (g : Sg), GS P g (xrun W B P e E c s vs g).2.2 := by
  intro s
  induction s with
  | nil => intro vs g; exact GS.rf
  | cons q s ih =>
    intro vs g
    rw [xrun]
    have := xop_gs (B := B) (e := e) (c := c) (E := E) (q := q) (vs := vs) (g := g) hW
    by_cases k : (xop W B P e E c q vs g).1 = 0
    · rw [if_pos k]
      exact this.tr (ih _ _)
    · rw [if_neg k]
      exact this
theorem up_e {f : Nat → Nat} {e v : Nat} : up f e v e = v := by simp [up]
theorem up_n {f : Nat → Nat} {e v x : Nat} (h : x ≠ e) : up f e v x = f x := by simp [up, h]
theorem up2_n {f : Nat → Nat → Int32} {e c x y : Nat} {v : Int32} (h : x ≠ e ∨ y ≠ c) : up2 f e c v x y = f x y := by
  unfold up2
  rw [if_neg (fun z => h.elim (fun w => w z.1) (fun w => w z.2))]
theorem up2_e {f : Nat → Nat → Int32} {e c : Nat} {v : Int32} : up2 f e c v e c = v := by simp [up2]
theorem mkd_ge {P : List Enm} {e c : Nat} {v : Int32} {g : Sg} {E : Enm} (hE : P[e]? = some E) (h3 : g.1 e = 3) (hf : g.2.1 e = c) (hc : c < E.2.1.length) : GE P e g (mkd e c v g) ∧ (mkd e c v g).2.1 e = c + 1 := by
  refine ⟨⟨fun x hx _ => ⟨rfl, up_n hx, fun y => up2_n (Or.inl hx), fun _ => rfl⟩, rfl, fun z x X hX => ?_⟩, up_e⟩
  by_cases ex : x = e
  · subst ex
    rw [hE] at hX
    cases hX
    obtain ⟨b1, b2, b3, b4, b5⟩ := z x E hE
    refine ⟨b1, ?_, fun w => ?_, fun w => ?_, fun w f hf2 => ?_⟩
    · show up g.2.1 x (c + 1) x ≤ _
      rw [up_e]
      omega
    · have w : g.1 x = 0 := w
      omega
    · have w : g.1 x = 1 := w
      omega
    · have hf2 : up g.2.1 x (c + 1) x ≤ E.2.1.length + f := hf2
      rw [up_e] at hf2
      exact b5 h3 f (by omega)
  · exact (z x X hX).sm ⟨rfl, up_n ex, fun y => up2_n (Or.inl ex), fun _ => rfl⟩
theorem mkr_ge {W : Nat → Sg → Nat × Sg} {B : Nat → Int32} {P : List Enm} {K : List Ko} {e c : Nat} {E : Enm} {g : Sg} (hW : HW P W) (hE : P[e]? = some E) (h3 : g.1 e = 3) (hf : g.2.1 e = c) (hc : c < E.2.1.length) : GE P e g (mkr W B P K e E c g).2 ∧ ((mkr W B P K e E c g).1 = 0 → (mkr W B P K e E c g).2.2.1 e = c + 1) := by
  unfold mkr
  split
  · exact ⟨(mkd_ge hE h3 hf hc).1, fun _ => (mkd_ge hE h3 hf hc).2⟩
  · rename_i q l hq
    have hs := xrun_gs (B := B) (e := e) (c := c) (E := E) hW (seg K q.2.2.2) [] g
    have he : g.1 e ≠ 0 := by omega
    have hk := hs.1 e he
    by_cases k : (xrun W B P e E c (seg K q.2.2.2) [] g).1 = 0
    · rw [if_pos k]
      have := mkd_ge (v := xhd (xrun W B P e E c (seg K q.2.2.2) [] g).2.1) hE (hk.1.trans h3) (hk.2.1.trans hf) hc
      exact ⟨(hs.ge he).tr this.1, fun _ => this.2⟩
    · rw [if_neg k]
      exact ⟨hs.ge he, fun z => absurd z k⟩
theorem mkl_ge {W : Nat → Sg → Nat × Sg} {B : Nat → Int32} {P : List Enm} {K : List Ko} {e : Nat} {E : Enm} (hW : HW P W) (hE : P[e]? = some E) : ∀ (k c : Nat) (g : Sg), g.1 e = 3 → g.2.1 e = c → c + k = E.2.1.length → GE P e g (mkl W B P K e E k c g).2 ∧ ((mkl W B P K e E k c g).1 = 0 → (mkl W B P K e E k c g).2.2.1 e = E.2.1.length) := by
  intro k
  induction k with
  | zero => intro c g h3 hf hc; exact ⟨GE.rf, fun _ => by show g.2.1 e = _; omega⟩
  | succ k ih =>
    intro c g h3 hf hc
    obtain ⟨a, b⟩ := mkr_ge (B := B) (K := K) hW hE h3 hf (by omega)
    rw [mkl]
    by_cases w : (mkr W B P K e E c g).1 = 0
    · rw [if_pos w]
      obtain ⟨a', b'⟩ := ih (c + 1) _ (a.2.1.trans h3) (b w) (by omega)
      exact ⟨a.tr a', b'⟩
    · rw [if_neg w]
      exact ⟨a, fun z => absurd z w⟩
theorem sfl_ge {W : Nat → Sg → Nat × Sg} {B : Nat → Int32} {P : List Enm} {K : List Ko} {e f : Nat} {E : Enm} {y : Mem} {g : Sg} (hW : HW P W) (hE : P[e]? = some E) (h3 : g.1 e = 3) (hf : g.2.1 e = E.2.1.length + f) (hy : f < (fls E.2.2).length) : GE P e g (sfl W B P K e E f y g).2 ∧ ((sfl W B P K e E f y g).1 = 0 → (sfl W B P K e E f y g).2.2.1 e = E.2.1.length + f + 1) := by
  have far : ∀ (g : Sg), g.1 e = 3 → g.2.1 e = E.2.1.length + f → GE P e g (faS g e (E.2.1.length + f + 1)) := fun g h3 hf => by
    refine ⟨fun x hx _ => ⟨rfl, up_n hx, fun _ => rfl, fun _ => rfl⟩, rfl, fun z x X hX => ?_⟩
    by_cases ex : x = e
    · subst ex
      rw [hE] at hX
      cases hX
      obtain ⟨b1, b2, b3, b4, b5⟩ := z x E hE
      refine ⟨b1, ?_, fun w => ?_, fun w => ?_, fun w f' hf2 => ?_⟩
      · show up g.2.1 x _ x ≤ _
        rw [up_e]
        omega
      · have w : g.1 x = 0 := w
        omega
      · have w : g.1 x = 1 := w
        omega
      · have hf2 : up g.2.1 x (E.2.1.length + f + 1) x ≤ E.2.1.length + f' := hf2
        rw [up_e] at hf2
        exact b5 h3 f' (by omega)
    · exact (z x X hX).sm ⟨rfl, up_n ex, fun _ => rfl, fun _ => rfl⟩
  unfold sfl
  by_cases y8 : y.1 = 8
  · rw [if_pos y8]
    exact ⟨far g h3 hf, fun _ => up_e⟩
  rw [if_neg y8]
  have hs := xrun_gs (B := B) (e := e) (c := 0) (E := E) hW (seg K y.2.2.2) [] g
  have he : g.1 e ≠ 0 := by omega
  have hk := hs.1 e he
  by_cases k : (xrun W B P e E 0 (seg K y.2.2.2) [] g).1 = 0
  · rw [if_pos k]
    refine ⟨(hs.ge he).tr ?_, fun _ => up_e⟩
    generalize (xrun W B P e E 0 (seg K y.2.2.2) [] g).2.2 = g1 at hk ⊢
    generalize xhd (xrun W B P e E 0 (seg K y.2.2.2) [] g).2.1 = v
    have h31 := hk.1.trans h3
    have hf1 := hk.2.1.trans hf
    refine ⟨fun x hx _ => ⟨rfl, up_n hx, fun _ => rfl, fun y => up2_n (Or.inl hx)⟩, rfl, fun z x X hX => ?_⟩
    by_cases ex : x = e
    · subst ex
      rw [hE] at hX
      cases hX
      obtain ⟨b1, b2, b3, b4, b5⟩ := z x E hE
      refine ⟨b1, ?_, fun w => ?_, fun w => ?_, fun w f' hf2 => ?_⟩
      · show up g1.2.1 x _ x ≤ _
        rw [up_e]
        omega
      · have w : g1.1 x = 0 := w
        omega
      · have w : g1.1 x = 1 := w
        omega
      · have hf2 : up g1.2.1 x (E.2.1.length + f + 1) x ≤ E.2.1.length + f' := hf2
        rw [up_e] at hf2
        show up2 g1.2.2.2.1 x f v x f' = 0
        rw [up2_n (Or.inr (by omega))]
        exact b5 h31 f' (by omega)
    · exact (z x X hX).sm ⟨rfl, up_n ex, fun _ => rfl, fun y => up2_n (Or.inl ex)⟩
  · rw [if_neg k]
    exact ⟨hs.ge he, fun z => absurd z k⟩
theorem sfs_ge {W : Nat → Sg → Nat × Sg} {B : Nat → Int32} {P : List Enm} {K : List Ko} {e : Nat} {E : Enm} (hW : HW P W) (hE : P[e]? = some E) : ∀ (l : List Mem) (f : Nat) (g : Sg), g.1 e = 3 → g.2.1 e = E.2.1.length + f → f + l.length = (fls E.2.2).length → GE P e g (sfs W B P K e E l f g).2 ∧ ((sfs W B P K e E l f g).1 = 0 → (sfs W B P K e E l f g).2.2.1 e = E.2.1.length + (fls E.2.2).length) := by
  intro l
  induction l with
  | nil => intro f g h3 hf hc; exact ⟨GE.rf, fun _ => by show g.2.1 e = _; rw [List.length_nil] at hc; omega⟩
  | cons y l ih =>
    intro f g h3 hf hc
    rw [List.length_cons] at hc
    obtain ⟨a, b⟩ := sfl_ge (B := B) (K := K) (y := y) hW hE h3 hf (by omega)
    rw [sfs]
    by_cases w : (sfl W B P K e E f y g).1 = 0
    · rw [if_pos w]
      obtain ⟨a', b'⟩ := ih (f + 1) _ (a.2.1.trans h3) (b w) (by omega)
      exact ⟨a.tr a', b'⟩
    · rw [if_neg w]
      exact ⟨a, fun z => absurd z w⟩
theorem bgn_ge {P : List Enm} {e : Nat} {E : Enm} {g : Sg} (hE : P[e]? = some E) (h0 : g.1 e = 0) : (∀ x, x ≠ e → same x g (bgn e g)) ∧ (bgn e g).1 e = 3 ∧ (bgn e g).2.1 e = 0 ∧ (ISg P g → ISg P (bgn e g)) := by
  refine ⟨fun x hx => ⟨up_n hx, up_n hx, fun _ => rfl, fun _ => rfl⟩, up_e, up_e, fun z x X hX => ?_⟩
  by_cases ex : x = e
  · subst ex
    obtain ⟨b1, b2, b3, b4, b5⟩ := z x X hX
    have e3 : (bgn x g).1 x = 3 := up_e
    have e0 : (bgn x g).2.1 x = 0 := up_e
    exact ⟨by rw [e3]; omega, by rw [e0]; omega, fun w => by rw [e3] at w; omega, fun w => by rw [e3] at w; omega, fun _ f _ => (b3 h0).2 f⟩
  · exact (z x X hX).sm ⟨up_n ex, up_n ex, fun _ => rfl, fun _ => rfl⟩
theorem strt_gs {W : Nat → Sg → Nat × Sg} {B : Nat → Int32} {P : List Enm} {K : List Ko} {e : Nat} {E : Enm} {g : Sg} (hW : HW P W) (hE : P[e]? = some E) (h0 : g.1 e = 0) : GS P g (strt W B P K e E g).2 ∧ ((strt W B P K e E g).1 = 0 → (strt W B P K e E g).2.1 e = 1) ∧ (strt W B P K e E g).2.1 e ≠ 0 := by
  obtain ⟨g1, g2, g3, g4⟩ := bgn_ge hE h0
  obtain ⟨a1, a2⟩ := mkl_ge (B := B) (K := K) hW hE E.2.1.length 0 (bgn e g) g2 g3 (by omega)
  have hb : GE P e (bgn e g) (bdy W B P K e E (mkl W B P K e E E.2.1.length 0 (bgn e g))).2 ∧ ((bdy W B P K e E (mkl W B P K e E E.2.1.length 0 (bgn e g))).1 = 0 → (bdy W B P K e E (mkl W B P K e E E.2.1.length 0 (bgn e g))).2.2.1 e = E.2.1.length + (fls E.2.2).length) := by
    unfold bdy
    by_cases w : (mkl W B P K e E E.2.1.length 0 (bgn e g)).1 = 0
    · rw [if_pos w]
      obtain ⟨c1, c2⟩ := sfs_ge (B := B) (K := K) hW hE (fls E.2.2) 0 _ (a1.2.1.trans g2) (a2 w) (by omega)
      exact ⟨a1.tr c1, c2⟩
    · rw [if_neg w]
      exact ⟨a1, fun z => absurd z w⟩
  unfold strt
  generalize bdy W B P K e E (mkl W B P K e E E.2.1.length 0 (bgn e g)) = r at hb
  obtain ⟨b1, b2⟩ := hb
  have h3 : r.2.1 e = 3 := b1.2.1.trans g2
  have keep : ∀ (k : Nat) (v : Int32), ∀ x, g.1 x ≠ 0 → same x g (trc (stS r.2 e k) v) := fun k v x hx => by
    have ne : x ≠ e := fun z => hx (by rw [z]; exact h0)
    have s1 := g1 x ne
    have s2 := b1.1 x ne (by rw [s1.1]; exact hx)
    exact (s1.tr s2).tr ⟨up_n ne, rfl, fun _ => rfl, fun _ => rfl⟩
  have inv : ∀ (k : Nat) (v : Int32), (k = 2 ∨ (k = 1 ∧ r.2.2.1 e = E.2.1.length + (fls E.2.2).length)) → ISg P g → ISg P (trc (stS r.2 e k) v) := fun k v hk z x X hX => by
    have z1 := b1.2.2 (g4 z) x X hX
    by_cases ex : x = e
    · subst ex
      rw [hE] at hX
      cases hX
      obtain ⟨c1, c2, c3, c4, c5⟩ := z1
      have ek : (trc (stS r.2 x k) v).1 x = k := up_e
      exact ⟨by rw [ek]; omega, c2, fun w => by rw [ek] at w; omega, fun w => by rw [ek] at w; rcases hk with hk | hk; omega; exact hk.2, fun w => by rw [ek] at w; omega⟩
    · exact z1.sm ⟨up_n ex, rfl, fun _ => rfl, fun _ => rfl⟩
  unfold fin
  by_cases w : r.1 = 0
  · rw [if_pos w]
    have e1 : (dne e r.2).1 e = 1 := up_e
    exact ⟨⟨keep 1 _, inv 1 _ (Or.inr ⟨rfl, b2 w⟩)⟩, fun _ => e1, by show (dne e r.2).1 e ≠ 0; rw [e1]; decide⟩
  · rw [if_neg w]
    have e1 : (fal e r.2).1 e = 2 := up_e
    exact ⟨⟨keep 2 _, inv 2 _ (Or.inl rfl)⟩, fun z => absurd z w, by show (fal e r.2).1 e ≠ 0; rw [e1]; decide⟩
theorem wnt_gs {B : Nat → Int32} {P : List Enm} {K : List Ko} : ∀ D, HW P (wnt B P K D) := by
  intro D
  induction D with
  | zero => intro e g; exact GS.rf
  | succ D ih =>
    intro e g
    rw [wnt]
    split
    · exact GS.rf
    · split
      · rename_i h0
        split
        · rename_i E hE
          exact (strt_gs ih hE h0).1
        · exact GS.rf
      · exact GS.rf
/-! how many have not begun -/
def z1 (g : Sg) (x : Nat) : Nat := if g.1 x = 0 then 1 else 0
def zc (g : Sg) : Nat := z1 g 0 + z1 g 1 + z1 g 2 + z1 g 3 + z1 g 4 + z1 g 5 + z1 g 6 + z1 g 7
theorem z1_le {g g1 : Sg} {x : Nat} (h : g.1 x ≠ 0 → g1.1 x ≠ 0) : z1 g1 x ≤ z1 g x := by
  unfold z1
  by_cases a : g.1 x = 0
  · rw [if_pos a]
    split <;> omega
  · rw [if_neg a, if_neg (h a)]
    omega
theorem zc_le {g g1 : Sg} (h : ∀ x, g.1 x ≠ 0 → g1.1 x ≠ 0) : zc g1 ≤ zc g := by
  unfold zc
  have := z1_le (h 0); have := z1_le (h 1); have := z1_le (h 2); have := z1_le (h 3)
  have := z1_le (h 4); have := z1_le (h 5); have := z1_le (h 6); have := z1_le (h 7)
  omega
theorem GS.zc {P : List Enm} {g g1 : Sg} (h : GS P g g1) : zc g1 ≤ zc g := zc_le (fun x hx => by rw [(h.1 x hx).1]; exact hx)
theorem GE.zc {P : List Enm} {e : Nat} {g g1 : Sg} (h : GE P e g g1) : zc g1 ≤ zc g := zc_le (fun x hx => by
  by_cases w : x = e
  · subst w
    rw [h.2.1]
    exact hx
  · rw [(h.1 x w hx).1]
    exact hx)
theorem zc_bgn {e : Nat} {g : Sg} (he : e < 8) (h0 : g.1 e = 0) : zc (bgn e g) + 1 = zc g := by
  have o : ∀ x, x ≠ e → z1 (bgn e g) x = z1 g x := fun x hx => by
    unfold z1
    rw [show (bgn e g).1 x = g.1 x from up_n hx]
  have i : z1 (bgn e g) e = 0 := by
    unfold z1
    rw [show (bgn e g).1 e = 3 from up_e]
    rfl
  have j : z1 g e = 1 := by
    unfold z1
    rw [if_pos h0]
  unfold zc
  rcases (show e = 0 ∨ e = 1 ∨ e = 2 ∨ e = 3 ∨ e = 4 ∨ e = 5 ∨ e = 6 ∨ e = 7 by omega) with w | w | w | w | w | w | w | w <;> subst w <;> simp [o, i, j] <;> omega
theorem zc_pos {e : Nat} {g : Sg} (he : e < 8) (h0 : g.1 e = 0) : 1 ≤ zc g := by
  have := zc_bgn he h0
  omega
theorem zc_8 (g : Sg) : zc g ≤ 8 := by
  have h : ∀ x, z1 g x ≤ 1 := fun x => by unfold z1; split <;> omega
  unfold zc
  have := h 0; have := h 1; have := h 2; have := h 3; have := h 4; have := h 5; have := h 6; have := h 7
  omega
/-! causes are small -/
def HK (W : Nat → Sg → Nat × Sg) : Prop := ∀ e g, (W e g).1 ≤ 6
theorem xop_k {W : Nat → Sg → Nat × Sg} {B : Nat → Int32} {P : List Enm} {e c : Nat} {E : Enm} {q : Ko} {vs : List Int32} {g : Sg} (hW : HK W) : (xop W B P e E c q vs g).1 ≤ 6 := by
  unfold xop
  by_cases h1 : q.1.1 = 1
  · rw [if_pos h1]; omega
  rw [if_neg h1]
  by_cases h2 : q.1.1 = 2
  · rw [if_pos h2]; omega
  rw [if_neg h2]
  by_cases h3 : q.1.1 = 3
  · rw [if_pos h3]
    have := hW (rct B P q).1 g
    unfold xcn
    by_cases k : (W (rct B P q).1 g).1 = 0
    · rw [if_pos k]
      by_cases k2 : (W (rct B P q).1 g).2.1 (rct B P q).1 = 3 ∧ (W (rct B P q).1 g).2.2.1 (rct B P q).1 ≤ (rct B P q).2
      · rw [if_pos k2]; omega
      · rw [if_neg k2]; omega
    · rw [if_neg k]; exact this
  rw [if_neg h3]
  by_cases h4 : q.1.1 = 4
  · rw [if_pos h4]; omega
  rw [if_neg h4]
  by_cases h5 : q.1.1 = 5
  · rw [if_pos h5]; omega
  rw [if_neg h5]
  by_cases h6 : q.1.1 = 6
  · rw [if_pos h6]; omega
  rw [if_neg h6]
  by_cases h7 : q.1.1 = 7
  · rw [if_pos h7]; omega
  rw [if_neg h7]
  unfold xjn
  split
  · split
    · omega
    · omega
  · omega
theorem xrun_k {W : Nat → Sg → Nat × Sg} {B : Nat → Int32} {P : List Enm} {e c : Nat} {E : Enm} (hW : HK W) : ∀ (s : List Ko) (vs : List Int32) (g : Sg), (xrun W B P e E c s vs g).1 ≤ 6 := by
  intro s
  induction s with
  | nil => intro vs g; rw [xrun]; omega
  | cons q s ih =>
    intro vs g
    rw [xrun]
    by_cases k : (xop W B P e E c q vs g).1 = 0
    · rw [if_pos k]
      exact ih _ _
    · rw [if_neg k]
      exact xop_k hW
theorem mkr_k {W : Nat → Sg → Nat × Sg} {B : Nat → Int32} {P : List Enm} {K : List Ko} {e c : Nat} {E : Enm} {g : Sg} (hW : HK W) : (mkr W B P K e E c g).1 ≤ 6 := by
  unfold mkr
  split
  · omega
  · rename_i q l hq
    by_cases k : (xrun W B P e E c (seg K q.2.2.2) [] g).1 = 0
    · rw [if_pos k]; omega
    · rw [if_neg k]
      exact xrun_k hW _ _ _
theorem mkl_k {W : Nat → Sg → Nat × Sg} {B : Nat → Int32} {P : List Enm} {K : List Ko} {e : Nat} {E : Enm} (hW : HK W) : ∀ (k c : Nat) (g : Sg), (mkl W B P K e E k c g).1 ≤ 6 := by
  intro k
  induction k with
  | zero => intro c g; rw [mkl]; omega
  | succ k ih =>
    intro c g
    rw [mkl]
    by_cases w : (mkr W B P K e E c g).1 = 0
    · rw [if_pos w]; exact ih _ _
    · rw [if_neg w]; exact mkr_k hW
theorem sfl_k {W : Nat → Sg → Nat × Sg} {B : Nat → Int32} {P : List Enm} {K : List Ko} {e f : Nat} {E : Enm} {y : Mem} {g : Sg} (hW : HK W) : (sfl W B P K e E f y g).1 ≤ 6 := by
  unfold sfl
  by_cases y8 : y.1 = 8
  · rw [if_pos y8]; omega
  rw [if_neg y8]
  by_cases k : (xrun W B P e E 0 (seg K y.2.2.2) [] g).1 = 0
  · rw [if_pos k]; omega
  · rw [if_neg k]; exact xrun_k hW _ _ _
theorem sfs_k {W : Nat → Sg → Nat × Sg} {B : Nat → Int32} {P : List Enm} {K : List Ko} {e : Nat} {E : Enm} (hW : HK W) : ∀ (l : List Mem) (f : Nat) (g : Sg), (sfs W B P K e E l f g).1 ≤ 6 := by
  intro l
  induction l with
  | nil => intro f g; rw [sfs]; omega
  | cons y l ih =>
    intro f g
    rw [sfs]
    by_cases w : (sfl W B P K e E f y g).1 = 0
    · rw [if_pos w]; exact ih _ _
    · rw [if_neg w]; exact sfl_k hW
theorem bdy_k {W : Nat → Sg → Nat × Sg} {B : Nat → Int32} {P : List Enm} {K : List Ko} {e : Nat} {E : Enm} {r : Nat × Sg} (hW : HK W) (hr : r.1 ≤ 6) : (bdy W B P K e E r).1 ≤ 6 := by
  unfold bdy
  split
  · exact sfs_k hW _ _ _
  · exact hr
theorem wnt_k {B : Nat → Int32} {P : List Enm} {K : List Ko} : ∀ D, HK (wnt B P K D) := by
  intro D
  induction D with
  | zero => intro e g; rw [wnt]; omega
  | succ D ih =>
    intro e g
    rw [wnt]
    split
    · omega
    · split
      · split
        · unfold strt fin
          split
          · omega
          · exact bdy_k ih (mkl_k ih _ _ _)
        · omega
      · omega
