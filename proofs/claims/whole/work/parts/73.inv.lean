/-! ===== L2: what every text that is read has: order of places, marks, exps that can be worked ===== -/
def SL (l : List Tok) : Prop := l.Pairwise (fun a b => a.2.1 < b.2.1)
def CL (l : List Tok) : Prop := SL l ∧ ∀ t ∈ l, t.2.1 < 4096 ∧ t.2.2 < 1000000000
theorem CL.suf {l r : List Tok} (h : CL l) (hr : r <:+ l) : CL r := ⟨h.1.sublist hr.sublist, fun t ht => h.2 t (hr.subset ht)⟩
theorem CL.tail {l : List Tok} (h : CL l) : CL l.tail := h.suf (List.tail_suffix l)
theorem tks_ge {B : Nat → Int32} {len : Nat} (hT : Tx B len) : ∀ n p, len - p = n → p ≤ len → ∀ t ∈ tks B len p, p ≤ t.2.1 := by
  intro n
  induction n using Nat.strongRecOn with
  | ind n ih =>
    intro p hn hp t ht
    by_cases hl : len ≤ p
    · rw [tks_end hl, List.mem_singleton] at ht
      rw [ht]
      exact hp
    · by_cases hb : isBl (B p) = true
      · rw [tks_bl (by omega) hb] at ht
        have := ih (n - 1) (by omega) (p + 1) (by omega) (by omega) t ht
        omega
      · have hL := tkL_pos (B := B) (p := p)
        have hL2 := tkL_le hT (show p < len by omega)
        rw [tks_tok (by omega) hb] at ht
        rcases List.mem_cons.mp ht with q | q
        · rw [q]
          exact Nat.le_refl _
        · have := ih (len - (p + tkL B p)) (by omega) (p + tkL B p) rfl (by omega) t q
          omega
theorem tks_sl {B : Nat → Int32} {len : Nat} (hT : Tx B len) : ∀ n p, len - p = n → SL (tks B len p) := by
  intro n
  induction n using Nat.strongRecOn with
  | ind n ih =>
    intro p hn
    by_cases hl : len ≤ p
    · rw [tks_end hl]
      exact List.pairwise_singleton _ _
    · by_cases hb : isBl (B p) = true
      · rw [tks_bl (by omega) hb]
        exact ih (n - 1) (by omega) (p + 1) (by omega)
      · have hL := tkL_pos (B := B) (p := p)
        have hL2 := tkL_le hT (show p < len by omega)
        rw [tks_tok (by omega) hb]
        refine List.pairwise_cons.mpr ⟨fun t ht => ?_, ih (len - (p + tkL B p)) (by omega) (p + tkL B p) rfl⟩
        have := tks_ge hT _ _ rfl (by omega) t ht
        show p < t.2.1
        omega
theorem cl_tks {B : Nat → Int32} {len : Nat} (hT : Tx B len) (hB : By B len) : CL (tks B len 0) := ⟨tks_sl hT len 0 rfl, fun t ht => (tks_bd hT hB len 0 rfl t ht).2⟩
theorem pE_suf : ∀ (l : List Tok) (S : XS), (pE S l).2.2 <:+ l := by
  intro l
  induction l with
  | nil => intro S; exact List.suffix_refl _
  | cons c rs ih =>
    intro S
    rw [pE]
    cases stp S c with
    | inl S1 => exact (ih S1).trans (List.suffix_cons c rs)
    | inr q => exact List.suffix_refl _
theorem pX_suf (l : List Tok) : (pX l).2.2 <:+ l := pE_suf l _
/-! how many values an exp's ops leave -/
def dp : Nat → List Op → Option Nat
  | n, [] => some n
  | n, o :: l => if o.1 ≤ 6 then (if n < 21 then dp (n + 1) l else none) else if o.1 = 7 then (if 1 ≤ n then dp n l else none) else (if 2 ≤ n then dp (n - 1) l else none)
def XV (ops : List Op) : Prop := dp 0 ops = some 1
theorem dp_app : ∀ (a b : List Op) (n : Nat), dp n (a ++ b) = (dp n a).bind (fun k => dp k b) := by
  intro a
  induction a with
  | nil => intro b n; rfl
  | cons o a ih =>
    intro b n
    simp only [List.cons_append, dp]
    by_cases q1 : o.1 ≤ 6
    · rw [if_pos q1, if_pos q1]
      by_cases q2 : n < 21
      · rw [if_pos q2, if_pos q2]; exact ih b (n + 1)
      · rw [if_neg q2, if_neg q2]; rfl
    · rw [if_neg q1, if_neg q1]
      by_cases q2 : o.1 = 7
      · rw [if_pos q2, if_pos q2]
        by_cases q3 : 1 ≤ n
        · rw [if_pos q3, if_pos q3]; exact ih b n
        · rw [if_neg q3, if_neg q3]; rfl
      · rw [if_neg q2, if_neg q2]
        by_cases q3 : 2 ≤ n
        · rw [if_pos q3, if_pos q3]; exact ih b (n - 1)
        · rw [if_neg q3, if_neg q3]; rfl
/-- the joining ones that wait -/
def bn : List Nat → Nat
  | [] => 0
  | x :: l => (if 8 ≤ x then 1 else 0) + bn l
theorem rnk_pos {x : Nat} (h : 0 < rnk x) : 7 ≤ x := by
  unfold rnk at h
  by_cases q : 7 ≤ x
  · exact q
  · rw [if_neg (by omega), if_neg (by omega), if_neg (by omega), if_neg (by omega), if_neg (by omega)] at h
    omega
theorem popG_dp : ∀ (st : List Nat) (r : Nat), 0 < r → dp (bn st + 1) ((popG r st).1.map bop) = some (bn (popG r st).2 + 1) ∧ bn (popG r st).2 ≤ bn st := by
  intro st
  induction st with
  | nil => intro r _; exact ⟨rfl, Nat.le_refl _⟩
  | cons x l ih =>
    intro r hr
    simp only [popG]
    by_cases q : r ≤ rnk x
    · rw [if_pos q]
      have h7 := rnk_pos (show 0 < rnk x by omega)
      obtain ⟨i1, i2⟩ := ih r hr
      simp only [List.map_cons, dp, bop, bn]
      rw [if_neg (by omega)]
      by_cases q7 : x = 7
      · rw [if_pos q7, if_pos (by omega), if_neg (by omega)]
        exact ⟨by rw [show 0 + bn l + 1 = bn l + 1 by omega]; exact i1, by omega⟩
      · rw [if_neg q7, if_pos (by rw [if_pos (by omega)]; omega), if_pos (by omega)]
        exact ⟨by rw [show 1 + bn l + 1 - 1 = bn l + 1 by omega]; exact i1, by omega⟩
    · rw [if_neg q]
      exact ⟨rfl, Nat.le_refl _⟩
/-- the state of the machine fits what is put -/
def xsV (S : XS) : Prop := bn S.2.2.1 ≤ S.2.2.2.2.1 ∧ S.2.2.2.2.1 ≤ 20 ∧ dp 0 S.2.2.2.2.2 = some (bn S.2.2.1 + if S.1 = 1 then 1 else 0)
theorem aft_v {st : List Nat} {de sg : Nat} {out : List Op} {o : Op} (h1 : bn st ≤ sg) (h2 : sg ≤ 20) (h3 : dp 0 out = some (bn st)) (ho : o.1 ≤ 6) : xsV (aft st de sg out o) := by
  obtain ⟨p1, p2⟩ := popG_dp st 3 (by omega)
  refine ⟨by show bn (popG 3 st).2 ≤ sg; omega, h2, ?_⟩
  show dp 0 (out ++ [o] ++ (popG 3 st).1.map bop) = some (bn (popG 3 st).2 + 1)
  rw [dp_app, dp_app, h3]
  show ((if o.1 ≤ 6 then (if bn st < 21 then some (bn st + 1) else none) else _).bind _) = _
  rw [if_pos ho, if_pos (by omega)]
  exact p1
theorem stp1_v {st : List Nat} {de sg k : Nat} {out : List Op} (hs : ∀ y ∈ st, y = 0 ∨ (7 ≤ y ∧ y ≤ 11)) (h1 : bn st ≤ sg) (h2 : sg ≤ 20) (h3 : dp 0 out = some (bn st + 1)) : match stp1 st de sg out k with
    | .inl S => xsV S
    | .inr q => q.1 = true → XV q.2 := by
  unfold stp1
  by_cases hj : jop k ≠ 0
  · have hjr : 0 < rnk (jop k) ∧ 8 ≤ jop k := by
      rcases jop_cases k with q | q | q | q | q <;> rw [q] <;> first | exact absurd q hj | decide
    rw [if_pos hj]
    by_cases hs : 20 ≤ sg
    · rw [if_pos hs]; intro z; exact absurd z ff
    · rw [if_neg hs]
      obtain ⟨p1, p2⟩ := popG_dp st _ hjr.1
      refine ⟨?_, by show sg + 1 ≤ 20; omega, ?_⟩
      · show (if 8 ≤ jop k then 1 else 0) + bn (popG (rnk (jop k)) st).2 ≤ sg + 1
        rw [if_pos hjr.2]
        omega
      · show dp 0 (out ++ (popG (rnk (jop k)) st).1.map bop) = some ((if 8 ≤ jop k then 1 else 0) + bn (popG (rnk (jop k)) st).2 + 0)
        rw [if_pos hjr.2, dp_app, h3]
        show dp (bn st + 1) _ = _
        rw [p1]
        congr 1
        omega
  · rw [if_neg hj]
    obtain ⟨p1, p2⟩ := popG_dp st 1 (by omega)
    by_cases hc : k = 41 ∧ 0 ∈ st
    · rw [if_pos hc]
      have ht : bn (popG 1 st).2.tail = bn (popG 1 st).2 := by
        have hz := popG_zero st hs hc.2
        conv => rhs; rw [hz]
        show _ = (if 8 ≤ 0 then 1 else 0) + bn _
        rw [if_neg (by omega)]
        omega
      obtain ⟨r1, r2⟩ := popG_dp (popG 1 st).2.tail 3 (by omega)
      refine ⟨by show bn (popG 3 (popG 1 st).2.tail).2 ≤ sg; omega, h2, ?_⟩
      show dp 0 (out ++ (popG 1 st).1.map bop ++ (popG 3 (popG 1 st).2.tail).1.map bop) = some (bn (popG 3 (popG 1 st).2.tail).2 + 1)
      rw [dp_app, dp_app, h3]
      show ((dp (bn st + 1) _).bind _) = _
      rw [p1, ← ht]
      exact r1
    · rw [if_neg hc]
      by_cases h0 : 0 ∈ st
      · rw [if_pos h0]; intro z; exact absurd z ff
      · rw [if_neg h0]
        intro _
        have ha := popG_all st hs h0
        have hb := popG_len st 1
        rw [ha] at hb
        have hn : (popG 1 st).2 = [] := List.eq_nil_of_length_eq_zero (by omega)
        show dp 0 (out ++ (popG 1 st).1.map bop) = some 1
        rw [dp_app, h3]
        show dp (bn st + 1) _ = _
        rw [p1, hn]
        rfl
theorem stp_ok2 {S : XS} {c : Tok} (hS : xsB S) (hc : c.2.1 < 4096 ∧ c.2.2 < 1000000000) : match stp S c with
    | .inl S => xsB S
    | .inr q => ∀ o ∈ q.2, opB o := by
  obtain ⟨md, p, st, de, sg, out⟩ := S
  obtain ⟨s1, s2, s3⟩ := hS
  have s1 : p < 4096 := s1
  have s2 : ∀ y ∈ st, y = 0 ∨ (7 ≤ y ∧ y ≤ 11) := s2
  have s3 : ∀ o ∈ out, opB o := s3
  rcases md with _ | _ | _ | md
  · show match stp0 st de sg out c with
      | .inl S => xsB S
      | .inr q => ∀ o ∈ q.2, opB o
    unfold stp0
    by_cases q1 : c.1 = 40 ∨ c.1 = 45
    · rw [if_pos q1]
      by_cases q2 : 8 ≤ de
      · rw [if_pos q2]; exact s3
      · rw [if_neg q2]
        refine ⟨by show 0 < 4096; decide, fun y hy => ?_, s3⟩
        rcases List.mem_cons.mp hy with z | z
        · rw [z]
          split
          · exact Or.inl rfl
          · exact Or.inr (by omega)
        · exact s2 y z
    rw [if_neg q1]
    by_cases q2 : c.1 = 129
    · rw [if_pos q2]; exact aft_ok s2 s3 (opB_mk (by decide) (by decide) hc.1 (by decide) hc.2)
    rw [if_neg q2]
    by_cases q3 : c.1 = 138
    · rw [if_pos q3]; exact aft_ok s2 s3 (opB_mk (by decide) (by decide) hc.1 (by decide) (by decide))
    rw [if_neg q3]
    by_cases q4 : c.1 = 139
    · rw [if_pos q4]; exact aft_ok s2 s3 (opB_mk (by decide) (by decide) hc.1 (by decide) (by decide))
    rw [if_neg q4]
    by_cases q5 : c.1 = 140
    · rw [if_pos q5]; exact aft_ok s2 s3 (opB_mk (by decide) (by decide) hc.1 (by decide) (by decide))
    rw [if_neg q5]
    by_cases q6 : c.1 = 128
    · rw [if_pos q6]; exact ⟨hc.1, s2, s3⟩
    rw [if_neg q6]; exact s3
  · exact stp1_ok s2 s3
  · show match (if c.1 = 46 then Sum.inl (3, p, st, de, sg, out) else stp1 (aft st de sg out (2, p, 0, 0)).2.2.1 (aft st de sg out (2, p, 0, 0)).2.2.2.1 sg (aft st de sg out (2, p, 0, 0)).2.2.2.2.2 c.1) with
      | .inl S => xsB S
      | .inr q => ∀ o ∈ q.2, opB o
    by_cases q1 : c.1 = 46
    · rw [if_pos q1]; exact ⟨s1, s2, s3⟩
    · rw [if_neg q1]
      obtain ⟨a1, a2, a3⟩ := aft_ok (de := de) (sg := sg) (o := (2, p, 0, 0)) s2 s3 (opB_mk (by decide) (by decide) s1 (by decide) (by decide))
      exact stp1_ok a2 a3
  · show match (if c.1 = 128 then Sum.inl (aft st de sg out (3, p, c.2.1, 0)) else Sum.inr (false, out)) with
      | .inl S => xsB S
      | .inr q => ∀ o ∈ q.2, opB o
    by_cases q1 : c.1 = 128
    · rw [if_pos q1]; exact aft_ok s2 s3 (opB_mk (by decide) (by decide) s1 hc.1 (by decide))
    · rw [if_neg q1]; exact s3
theorem stp_ok {S S1 : XS} {c : Tok} (hS : xsB S) (hc : c.2.1 < 4096 ∧ c.2.2 < 1000000000) (he : stp S c = .inl S1) : xsB S1 := by
  have := stp_ok2 hS hc
  rw [he] at this
  exact this
theorem pE_v : ∀ (l : List Tok) (S : XS), (∀ t ∈ l, t.2.1 < 4096 ∧ t.2.2 < 1000000000) → xsB S → xsV S → (pE S l).1 = true → XV (pE S l).2.1 := by
  intro l
  induction l with
  | nil => intro S _ _ _ h; exact absurd h (by simp [pE])
  | cons c rs ih =>
    intro S hl hS hV
    have hc := hl c (by simp)
    have key : match stp S c with
        | .inl S => xsV S
        | .inr q => q.1 = true → XV q.2 := by
      obtain ⟨md, p, st, de, sg, out⟩ := S
      obtain ⟨s1, s2, s3⟩ := hS
      obtain ⟨v1, v2, v3⟩ := hV
      have s2 : ∀ y ∈ st, y = 0 ∨ (7 ≤ y ∧ y ≤ 11) := s2
      have v1 : bn st ≤ sg := v1
      have v2 : sg ≤ 20 := v2
      have v3 : dp 0 out = some (bn st + if md = 1 then 1 else 0) := v3
      rcases md with _ | _ | _ | md
      · have v3 : dp 0 out = some (bn st) := v3
        show match stp0 st de sg out c with
          | .inl S => xsV S
          | .inr q => q.1 = true → XV q.2
        unfold stp0
        by_cases q1 : c.1 = 40 ∨ c.1 = 45
        · rw [if_pos q1]
          by_cases q2 : 8 ≤ de
          · rw [if_pos q2]; intro z; exact absurd z ff
          · rw [if_neg q2]
            have e0 : bn ((if c.1 = 40 then 0 else 7) :: st) = bn st := by
              simp only [bn]
              rw [if_neg (by split <;> omega)]
              omega
            exact ⟨by show bn ((if c.1 = 40 then 0 else 7) :: st) ≤ sg; omega, v2, by show dp 0 out = some (bn ((if c.1 = 40 then 0 else 7) :: st) + 0); rw [e0]; exact v3⟩
        rw [if_neg q1]
        by_cases q2 : c.1 = 129
        · rw [if_pos q2]; exact aft_v v1 v2 v3 (by simp)
        rw [if_neg q2]
        by_cases q3 : c.1 = 138
        · rw [if_pos q3]; exact aft_v v1 v2 v3 (by simp)
        rw [if_neg q3]
        by_cases q4 : c.1 = 139
        · rw [if_pos q4]; exact aft_v v1 v2 v3 (by simp)
        rw [if_neg q4]
        by_cases q5 : c.1 = 140
        · rw [if_pos q5]; exact aft_v v1 v2 v3 (by simp)
        rw [if_neg q5]
        by_cases q6 : c.1 = 128
        · rw [if_pos q6]; exact ⟨v1, v2, v3⟩
        rw [if_neg q6]; intro z; exact absurd z ff
      · exact stp1_v s2 v1 v2 v3
      · have v3 : dp 0 out = some (bn st) := v3
        show match (if c.1 = 46 then Sum.inl (3, p, st, de, sg, out) else stp1 (aft st de sg out (2, p, 0, 0)).2.2.1 (aft st de sg out (2, p, 0, 0)).2.2.2.1 sg (aft st de sg out (2, p, 0, 0)).2.2.2.2.2 c.1) with
          | .inl S => xsV S
          | .inr q => q.1 = true → XV q.2
        by_cases q1 : c.1 = 46
        · rw [if_pos q1]; exact ⟨v1, v2, v3⟩
        · rw [if_neg q1]
          obtain ⟨a1, a2, a3⟩ := aft_v (de := de) (o := (2, p, 0, 0)) v1 v2 v3 (by simp)
          obtain ⟨b1, b2⟩ := bop_ok (r := 3) (by decide) s2
          exact stp1_v b2 a1 a2 a3
      · have v3 : dp 0 out = some (bn st) := by rw [if_neg (by omega)] at v3; exact v3
        show match (if c.1 = 128 then Sum.inl (aft st de sg out (3, p, c.2.1, 0)) else Sum.inr (false, out)) with
          | .inl S => xsV S
          | .inr q => q.1 = true → XV q.2
        by_cases q1 : c.1 = 128
        · rw [if_pos q1]; exact aft_v v1 v2 v3 (by simp)
        · rw [if_neg q1]; intro z; exact absurd z ff
    have hS1 : ∀ S1, stp S c = .inl S1 → xsB S1 := fun S1 he => stp_ok hS hc he
    rw [pE]
    cases he : stp S c with
    | inl S1 => rw [he] at key; exact ih S1 (fun t ht => hl t (by simp [ht])) (hS1 S1 he) key
    | inr q => rw [he] at key; exact key
theorem pX_v {l : List Tok} (h : ∀ t ∈ l, t.2.1 < 4096 ∧ t.2.2 < 1000000000) (hb : (pX l).1 = true) : XV (pX l).2.1 := pE_v l _ h ⟨by decide, fun y hy => by simp at hy, fun o ho => by simp at ho⟩ ⟨by decide, by decide, rfl⟩ hb
