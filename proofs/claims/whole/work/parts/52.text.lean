/-! ===== L2: what a text is, by its tokens ===== -/
theorem tks_last {B : Nat → Int32} {len : Nat} (hT : Tx B len) : ∀ n p, len - p = n → ∃ l, tks B len p = l ++ [(130, len, 0)] := by
  intro n
  induction n using Nat.strongRecOn with
  | ind n ih =>
    intro p hn
    by_cases hl : len ≤ p
    · exact ⟨[], by rw [tks_end hl]; rfl⟩
    · by_cases hb : isBl (B p) = true
      · obtain ⟨l, e⟩ := ih (n - 1) (by omega) (p + 1) (by omega)
        exact ⟨l, by rw [tks_bl (by omega) hb]; exact e⟩
      · have hL := tkL_pos (B := B) (p := p)
        have hL2 := tkL_le hT (show p < len by omega)
        obtain ⟨l, e⟩ := ih (len - (p + tkL B p)) (by omega) (p + tkL B p) rfl
        exact ⟨(tkK B p, p, tkV B p) :: l, by rw [tks_tok (by omega) hb, e]; rfl⟩
theorem el_tks {B : Nat → Int32} {len : Nat} (hT : Tx B len) (p : Nat) : EL (tks B len p) := by
  obtain ⟨l, e⟩ := tks_last hT _ p rfl
  rw [e]
  intro k c hc hn
  have hk := (List.getElem?_eq_some_iff.mp hc).1
  rw [List.length_append] at hk ⊢
  simp only [List.length_cons, List.length_nil] at hk ⊢
  by_cases q : k < l.length
  · omega
  · have e2 : k = l.length := by omega
    subst e2
    rw [List.getElem?_append_right (Nat.le_refl _), Nat.sub_self] at hc
    cases hc
    exact absurd rfl hn
def hd (l : List Tok) : Nat := match l with
  | [] => 0
  | c :: _ => c.1
def plc (l : List Tok) : Nat := match l with
  | [] => 0
  | c :: _ => c.2.1
def nmb (l : List Tok) : Nat := match l with
  | [] => 0
  | c :: _ => c.2.2
/-- an op in its place: of which enumeration, in what sort of exp, for which constant -/
abbrev Ko : Type := Op × Nat × Nat × Nat
def kox (en so c : Nat) (o : Op) : Ko := (o, en, so, c)
def encK (q : Ko) : Int64 := if 12 ≤ q.1.1 then (if q.1.1 = 14 then lN (q.1.2.1 * 16 + 14) else lN (q.1.2.2.2 * 16 + q.1.1)) else encOp q.1
/-- a constant: place, number, body; a member: sort, place, number, where its exp is; an enumeration -/
abbrev Con : Type := Nat × Nat × Nat
abbrev Mem : Type := Nat × Nat × Nat × Nat
abbrev Enm : Type := Nat × List Con × List Mem
def stK (en so c : Nat) : Ko := ((0, 0, 0, 0), en, so, c)
/-- '=' exp ';' -/
def pEx (en so c : Nat) (K : List Ko) (l : List Tok) : Option (List Ko) × List Tok :=
  if hd l = 61 then (if (pX l.tail).1 = true then (if hd (pX l.tail).2.2 = 59 then (some (K ++ (pX l.tail).2.1.map (kox en so c) ++ [stK en so c]), (pX l.tail).2.2.tail) else (none, (pX l.tail).2.2)) else (none, (pX l.tail).2.2)) else (none, l)
def gvK (en c p : Nat) : Ko := ((14, p, 0, 0), en, 0, c)
def pGv (en c : Nat) : Nat → List Ko → List Tok → Option (List Ko) × List Tok
  | 0, _, l => (none, l)
  | f + 1, K, l => if hd l = 128 then (match pEx en 0 c (K ++ [gvK en c (plc l)]) l.tail with
      | (some K1, r) => pGv en c f K1 r
      | (none, r) => (none, r))
    else if hd l = 125 then (some K, l.tail) else (none, l)
def pArg (l : List Tok) : Option Nat × List Tok :=
  if hd l = 40 then (if hd l.tail = 129 then (if hd l.tail.tail = 41 then (some (nmb l.tail), l.tail.tail.tail) else (none, l.tail.tail)) else (none, l.tail)) else (some 0, l)
def bdyK (en c : Nat) : Ko := ((13, 0, 0, c), en, 0, c)
def pBdy (en c : Nat) (K : List Ko) (l : List Tok) : Option (Nat × List Ko) × List Tok :=
  if hd l = 123 then (match pGv en c 2002 (K ++ [bdyK en c]) l.tail with
    | (some K1, r) => (some (1, K1), r)
    | (none, r) => (none, r))
  else (some (0, K), l)
def pCs (en : Nat) : Nat → List Con → List Ko → List Tok → Option (List Con × List Ko) × List Tok
  | 0, _, _, l => (none, l)
  | f + 1, cs, K, l => if hd l = 128 ∧ cs.length < 12 then (match pArg l.tail with
      | (none, r) => (none, r)
      | (some v, l1) => match pBdy en cs.length K l1 with
        | (none, r) => (none, r)
        | (some (b, K1), l2) => if hd l2 = 44 then pCs en f (cs ++ [(plc l, v, b)]) K1 l2.tail else (some (cs ++ [(plc l, v, b)], K1), l2))
    else (none, l)
def pCns (en : Nat) (K : List Ko) (l : List Tok) : Option (List Con × List Ko) × List Tok :=
  if hd l = 128 then pCs en 14 [] K l else (some ([], K), l)
def mbs (ms : List Mem) : List Mem := ms.filter (fun q => decide (q.1 = 5) || decide (q.1 = 6))
def fls (ms : List Mem) : List Mem := ms.filter (fun q => decide (q.1 = 7) || decide (q.1 = 8))
def mks (ms : List Mem) : List Mem := ms.filter (fun q => decide (q.1 = 9))
def mkK (en : Nat) : Ko := ((15, 0, 0, 0), en, 2, 0)
def pMk (en : Nat) (ms : List Mem) (K : List Ko) (l : List Tok) : Option (List Mem × List Ko) × List Tok :=
  match pEx en 2 0 (K ++ [mkK en]) l.tail with
    | (some K1, r) => (some (ms ++ [(9, plc l, 0, K.length + 1)], K1), r)
    | (none, r) => (none, r)
def pAbs (ms : List Mem) (K : List Ko) (l : List Tok) : Option (List Mem × List Ko) × List Tok :=
  if hd l.tail = 128 ∧ (mbs ms).length < 8 then (if hd l.tail.tail = 59 then (some (ms ++ [(5, plc l.tail, 0, 0)], K), l.tail.tail.tail) else (none, l.tail.tail)) else (none, l.tail)
def pDef (en : Nat) (ms : List Mem) (K : List Ko) (l : List Tok) : Option (List Mem × List Ko) × List Tok :=
  if hd l.tail = 128 ∧ (mbs ms).length < 8 then (match pEx en 0 0 K l.tail.tail with
    | (some K1, r) => (some (ms ++ [(6, plc l.tail, 0, K.length)], K1), r)
    | (none, r) => (none, r)) else (none, l.tail)
def pFld (en : Nat) (ms : List Mem) (K : List Ko) (l : List Tok) : Option (List Mem × List Ko) × List Tok :=
  if hd l.tail = 128 ∧ (fls ms).length < 6 then (match pEx en 1 0 K l.tail.tail with
    | (some K1, r) => (some (ms ++ [(7, plc l.tail, 0, K.length)], K1), r)
    | (none, r) => (none, r)) else (none, l.tail)
def pCst (ms : List Mem) (K : List Ko) (l : List Tok) : Option (List Mem × List Ko) × List Tok :=
  if hd l.tail = 128 ∧ (fls ms).length < 6 then (if hd l.tail.tail = 61 then (if hd l.tail.tail.tail = 129 then (if hd l.tail.tail.tail.tail = 59 then (some (ms ++ [(8, plc l.tail, nmb l.tail.tail.tail, 0)], K), l.tail.tail.tail.tail.tail) else (none, l.tail.tail.tail.tail)) else (none, l.tail.tail.tail)) else (none, l.tail.tail)) else (none, l.tail)
def pMm (en : Nat) (ms : List Mem) (K : List Ko) (l : List Tok) : Option (List Mem × List Ko) × List Tok :=
  if hd l = 133 then pAbs ms K l else if hd l = 134 then pDef en ms K l else if hd l = 135 then pFld en ms K l else if hd l = 136 then pCst ms K l else pMk en ms K l
def pMs (en : Nat) : Nat → List Mem → List Ko → List Tok → Option (List Mem × List Ko) × List Tok
  | 0, _, _, l => (none, l)
  | f + 1, ms, K, l => if 133 ≤ hd l ∧ hd l ≤ 137 then (match pMm en ms K l with
      | (some (ms1, K1), r) => pMs en f ms1 K1 r
      | (none, r) => (none, r))
    else (some (ms, K), l)
def pMbs (en : Nat) (K : List Ko) (l : List Tok) : Option (List Mem × List Ko) × List Tok :=
  if hd l = 59 then pMs en 2002 [] K l.tail else (some ([], K), l)
def enK (en : Nat) : Ko := ((12, 0, 0, en), en, 0, 0)
/-- behind 'enum' -/
def pEn (P : List Enm) (K : List Ko) (l : List Tok) : Option (List Enm × List Ko) × List Tok :=
  if hd l = 128 ∧ P.length < 8 then (if hd l.tail = 123 then (match pCns P.length (K ++ [enK P.length]) l.tail.tail with
    | (none, r) => (none, r)
    | (some (cs, K1), l1) => match pMbs P.length K1 l1 with
      | (none, r) => (none, r)
      | (some (ms, K2), l2) => if hd l2 = 125 then (some (P ++ [(plc l, cs, ms)], K2), l2.tail) else (none, l2))
    else (none, l.tail)) else (none, l)
def pTx : Nat → List Enm → List Ko → List Tok → Option (List Enm × List Ko) × List Tok
  | 0, _, _, l => (none, l)
  | f + 1, P, K, l => if hd l = 130 then (some (P, K), l) else if hd l = 132 then (match pEn P K l.tail with
      | (some (P1, K1), r) => pTx f P1 K1 r
      | (none, r) => (none, r))
    else (none, l)
/-! ===== the ops of an exp ===== -/
def opB (o : Op) : Prop := 1 ≤ o.1 ∧ o.1 ≤ 11 ∧ o.2.1 < 4096 ∧ o.2.2.1 < 4096 ∧ o.2.2.2 < 1000000000
theorem opB_mk {w p s v : Nat} (h1 : 1 ≤ w) (h2 : w ≤ 11) (h3 : p < 4096) (h4 : s < 4096) (h5 : v < 1000000000) : opB (w, p, s, v) := ⟨h1, h2, h3, h4, h5⟩
theorem bop_ok {r : Nat} {st : List Nat} (hr : 0 < r) (h : ∀ y ∈ st, y = 0 ∨ (7 ≤ y ∧ y ≤ 11)) : (∀ o ∈ (popG r st).1.map bop, opB o) ∧ ∀ y ∈ (popG r st).2, y = 0 ∨ (7 ≤ y ∧ y ≤ 11) := by
  have ha := popG_app st r
  refine ⟨fun o ho => ?_, fun y hy => h y (by rw [← ha]; exact List.mem_append.mpr (Or.inr hy))⟩
  obtain ⟨y, hy, rfl⟩ := List.mem_map.mp ho
  rcases h y (by rw [← ha]; exact List.mem_append.mpr (Or.inl hy)) with q | q
  · exfalso
    have : 0 < opn (popG r st).1 := (opn_mem _).mp (by rw [← q]; exact hy)
    rw [popG_opn st r hr] at this
    omega
  · exact opB_mk (by omega) (by omega) (by decide) (by decide) (by decide)
def xsB (S : XS) : Prop := S.2.1 < 4096 ∧ (∀ y ∈ S.2.2.1, y = 0 ∨ (7 ≤ y ∧ y ≤ 11)) ∧ ∀ o ∈ S.2.2.2.2.2, opB o
theorem aft_ok {st : List Nat} {de sg : Nat} {out : List Op} {o : Op} (h1 : ∀ y ∈ st, y = 0 ∨ (7 ≤ y ∧ y ≤ 11)) (h2 : ∀ o ∈ out, opB o) (h3 : opB o) : xsB (aft st de sg out o) := by
  obtain ⟨b1, b2⟩ := bop_ok (r := 3) (by decide) h1
  refine ⟨by show 0 < 4096; decide, b2, fun q hq => ?_⟩
  have hq : q ∈ out ++ [o] ++ (popG 3 st).1.map bop := hq
  rw [List.mem_append, List.mem_append, List.mem_singleton] at hq
  rcases hq with (z | z) | z
  · exact h2 q z
  · exact z ▸ h3
  · exact b1 q z
theorem stp1_ok {st : List Nat} {de sg : Nat} {out : List Op} {k : Nat} (h1 : ∀ y ∈ st, y = 0 ∨ (7 ≤ y ∧ y ≤ 11)) (h2 : ∀ o ∈ out, opB o) : match stp1 st de sg out k with
    | .inl S => xsB S
    | .inr q => ∀ o ∈ q.2, opB o := by
  unfold stp1
  by_cases hj : jop k ≠ 0
  · have hjr : 0 < rnk (jop k) ∧ 7 ≤ jop k ∧ jop k ≤ 11 := by
      rcases jop_cases k with q | q | q | q | q <;> rw [q] <;> first | exact absurd q hj | decide
    rw [if_pos hj]
    by_cases hs : 20 ≤ sg
    · rw [if_pos hs]; exact h2
    · rw [if_neg hs]
      obtain ⟨b1, b2⟩ := bop_ok hjr.1 h1
      refine ⟨by show 0 < 4096; decide, fun y hy => ?_, fun o ho => ?_⟩
      · rcases List.mem_cons.mp hy with q | q
        · exact Or.inr (by omega)
        · exact b2 y q
      · rcases List.mem_append.mp ho with q | q
        · exact h2 o q
        · exact b1 o q
  · rw [if_neg hj]
    obtain ⟨b1, b2⟩ := bop_ok (r := 1) (by decide) h1
    by_cases hc : k = 41 ∧ 0 ∈ st
    · rw [if_pos hc]
      obtain ⟨c1, c2⟩ := bop_ok (r := 3) (by decide) (st := (popG 1 st).2.tail) (fun y hy => b2 y (List.mem_of_mem_tail hy))
      refine ⟨by show 0 < 4096; decide, c2, fun o ho => ?_⟩
      rcases List.mem_append.mp ho with q | q
      · rcases List.mem_append.mp q with z | z
        · exact h2 o z
        · exact b1 o z
      · exact c1 o q
    · rw [if_neg hc]
      by_cases h0 : 0 ∈ st
      · rw [if_pos h0]; exact h2
      · rw [if_neg h0]
        intro o ho
        rcases List.mem_append.mp ho with q | q
        · exact h2 o q
        · exact b1 o q
theorem pE_ok : ∀ (l : List Tok) (S : XS), (∀ t ∈ l, t.2.1 < 4096 ∧ t.2.2 < 1000000000) → xsB S → ∀ o ∈ (pE S l).2.1, opB o := by
  intro l
  induction l with
  | nil => intro S _ _ o ho; exact absurd ho (by simp [pE])
  | cons c rs ih =>
    intro S hl hS
    have hc := hl c (by simp)
    have key : match stp S c with
        | .inl S => xsB S
        | .inr q => ∀ o ∈ q.2, opB o := by
      obtain ⟨md, p, st, de, sg, out⟩ := S
      obtain ⟨s1, s2, s3⟩ := hS
      have s1 : p < 4096 := s1
      have s2 : ∀ y ∈ st, y = 0 ∨ (7 ≤ y ∧ y ≤ 11) := s2
      have s3 : ∀ o ∈ out, opB o := s3
      rcases md with _ | _ | _ | md
      · show match stp0 st de sg out c with
          | .inl S => xsB S
          | .inr q => ∀ o ∈ q.2, opB o
        unfold stp0
        by_cases q1 : c.1 = 40 ∨ c.1 = 45
        · rw [if_pos q1]
          by_cases q2 : 8 ≤ de
          · rw [if_pos q2]; exact s3
          · rw [if_neg q2]
            refine ⟨by show 0 < 4096; decide, fun y hy => ?_, s3⟩
            rcases List.mem_cons.mp hy with z | z
            · rw [z]
              split
              · exact Or.inl rfl
              · exact Or.inr (by omega)
            · exact s2 y z
        rw [if_neg q1]
        by_cases q2 : c.1 = 129
        · rw [if_pos q2]; exact aft_ok s2 s3 (opB_mk (by decide) (by decide) hc.1 (by decide) hc.2)
        rw [if_neg q2]
        by_cases q3 : c.1 = 138
        · rw [if_pos q3]; exact aft_ok s2 s3 (opB_mk (by decide) (by decide) hc.1 (by decide) (by decide))
        rw [if_neg q3]
        by_cases q4 : c.1 = 139
        · rw [if_pos q4]; exact aft_ok s2 s3 (opB_mk (by decide) (by decide) hc.1 (by decide) (by decide))
        rw [if_neg q4]
        by_cases q5 : c.1 = 140
        · rw [if_pos q5]; exact aft_ok s2 s3 (opB_mk (by decide) (by decide) hc.1 (by decide) (by decide))
        rw [if_neg q5]
        by_cases q6 : c.1 = 128
        · rw [if_pos q6]; exact ⟨hc.1, s2, s3⟩
        rw [if_neg q6]; exact s3
      · exact stp1_ok s2 s3
      · show match (if c.1 = 46 then Sum.inl (3, p, st, de, sg, out) else stp1 (aft st de sg out (2, p, 0, 0)).2.2.1 (aft st de sg out (2, p, 0, 0)).2.2.2.1 sg (aft st de sg out (2, p, 0, 0)).2.2.2.2.2 c.1) with
          | .inl S => xsB S
          | .inr q => ∀ o ∈ q.2, opB o
        by_cases q1 : c.1 = 46
        · rw [if_pos q1]; exact ⟨s1, s2, s3⟩
        · rw [if_neg q1]
          obtain ⟨a1, a2, a3⟩ := aft_ok (de := de) (sg := sg) (o := (2, p, 0, 0)) s2 s3 (opB_mk (by decide) (by decide) s1 (by decide) (by decide))
          exact stp1_ok a2 a3
      · show match (if c.1 = 128 then Sum.inl (aft st de sg out (3, p, c.2.1, 0)) else Sum.inr (false, out)) with
          | .inl S => xsB S
          | .inr q => ∀ o ∈ q.2, opB o
        by_cases q1 : c.1 = 128
        · rw [if_pos q1]; exact aft_ok s2 s3 (opB_mk (by decide) (by decide) s1 hc.1 (by decide))
        · rw [if_neg q1]; exact s3
    rw [pE]
    cases he : stp S c with
    | inl S1 => rw [he] at key; exact ih S1 (fun t ht => hl t (by simp [ht])) key
    | inr q => rw [he] at key; exact key
theorem pX_ok {l : List Tok} (h : ∀ t ∈ l, t.2.1 < 4096 ∧ t.2.2 < 1000000000) : ∀ o ∈ (pX l).2.1, opB o := pE_ok l _ h ⟨by decide, fun y hy => by simp at hy, fun o ho => by simp at ho⟩
theorem encK_ops {en so c : Nat} : ∀ (l : List Op), (∀ o ∈ l, opB o) → (l.map (kox en so c)).map encK = l.map encOp := by
  intro l
  induction l with
  | nil => intro _; rfl
  | cons o l ih =>
    intro h
    rw [List.map_cons, List.map_cons, List.map_cons, ih (fun q hq => h q (by simp [hq]))]
    have := (h o (by simp)).2.1
    unfold encK kox
    rw [if_neg (by simp only; omega)]
