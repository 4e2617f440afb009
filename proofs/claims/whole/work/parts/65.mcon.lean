/-! ===== L2: the reference reads bodies and constants ===== -/
/-- an exp takes tokens, one at least -/
theorem pE_len : ∀ (l : List Tok) (S : XS), (pE S l).2.2.length ≤ l.length := by
  intro l
  induction l with
  | nil => intro S; simp [pE]
  | cons c rs ih =>
    intro S
    rw [pE]
    cases stp S c with
    | inl S1 => exact Nat.le_trans (ih S1) (by simp)
    | inr q => exact Nat.le_refl _
theorem pX_len (l : List Tok) : (pX l).2.2.length ≤ l.length := pE_len l _
theorem pX_len2 (l : List Tok) (h : (pX l).1 = true) : (pX l).2.2.length + 1 ≤ l.length := by
  unfold pX at *
  cases l with
  | nil => simp [pE] at h
  | cons c rs =>
    rw [pE] at h ⊢
    cases he : stp (0, 0, [], 0, 0, []) c with
    | inl S1 =>
      have := pE_len rs S1
      simp only [List.length_cons]
      omega
    | inr q =>
      exfalso
      rw [he] at h
      have : stp0 [] 0 0 [] c = .inr q := he
      unfold stp0 at this
      by_cases q1 : c.1 = 40 ∨ c.1 = 45
      · rw [if_pos q1, if_neg (by omega)] at this
        cases this
      rw [if_neg q1] at this
      by_cases q2 : c.1 = 129
      · rw [if_pos q2] at this; cases this
      rw [if_neg q2] at this
      by_cases q3 : c.1 = 138
      · rw [if_pos q3] at this; cases this
      rw [if_neg q3] at this
      by_cases q4 : c.1 = 139
      · rw [if_pos q4] at this; cases this
      rw [if_neg q4] at this
      by_cases q5 : c.1 = 140
      · rw [if_pos q5] at this; cases this
      rw [if_neg q5] at this
      by_cases q6 : c.1 = 128
      · rw [if_pos q6] at this; cases this
      rw [if_neg q6] at this
      cases this
      cases h
theorem stp1_cnt {st : List Nat} {de sg : Nat} {out : List Op} {k : Nat} : match stp1 st de sg out k with
    | .inl S => S.2.2.2.2.2.length + S.2.2.1.length ≤ out.length + st.length + 1 ∧ S.1 ≤ 1
    | .inr q => q.2.length ≤ out.length + st.length := by
  unfold stp1
  have h1 := popG_len st 1
  have hj := popG_len st (rnk (jop k))
  have h3 := popG_len (popG 1 st).2.tail 3
  have ht : (popG 1 st).2.tail.length ≤ (popG 1 st).2.length := by simp
  by_cases q1 : jop k ≠ 0
  · rw [if_pos q1]
    by_cases q2 : 20 ≤ sg
    · rw [if_pos q2]
      show out.length ≤ _
      omega
    · rw [if_neg q2]
      refine ⟨?_, Nat.zero_le _⟩
      simp only [List.length_append, List.length_map, List.length_cons]
      omega
  · rw [if_neg q1]
    by_cases q2 : k = 41 ∧ 0 ∈ st
    · rw [if_pos q2]
      refine ⟨?_, Nat.le_refl _⟩
      simp only [List.length_append, List.length_map]
      omega
    · rw [if_neg q2]
      by_cases q3 : 0 ∈ st
      · rw [if_pos q3]
        show out.length ≤ _
        omega
      · rw [if_neg q3]
        show (out ++ (popG 1 st).1.map bop).length ≤ _
        simp only [List.length_append, List.length_map]
        omega
theorem aft_cnt {st : List Nat} {de sg : Nat} {out : List Op} {o : Op} : (aft st de sg out o).2.2.2.2.2.length + (aft st de sg out o).2.2.1.length = out.length + st.length + 1 ∧ (aft st de sg out o).1 = 1 := by
  have h3 := popG_len st 3
  refine ⟨?_, rfl⟩
  show (out ++ [o] ++ (popG 3 st).1.map bop).length + (popG 3 st).2.length = _
  simp only [List.length_append, List.length_map, List.length_singleton]
  omega
def xw (S : XS) : Nat := if 2 ≤ S.1 then 1 else 0
/-- no more ops than tokens -/
theorem pE_cnt : ∀ (l : List Tok) (S : XS), (pE S l).2.1.length + (pE S l).2.2.length ≤ S.2.2.2.2.2.length + S.2.2.1.length + xw S + l.length := by
  intro l
  induction l with
  | nil => intro S; simp [pE]
  | cons c rs ih =>
    intro S
    have key : match stp S c with
        | .inl S1 => S1.2.2.2.2.2.length + S1.2.2.1.length + xw S1 ≤ S.2.2.2.2.2.length + S.2.2.1.length + xw S + 1
        | .inr q => q.2.length ≤ S.2.2.2.2.2.length + S.2.2.1.length + xw S := by
      obtain ⟨md, p, st, de, sg, out⟩ := S
      have one : ∀ o : Op, (aft st de sg out o).2.2.2.2.2.length + (aft st de sg out o).2.2.1.length + xw (aft st de sg out o) ≤ out.length + st.length + 1 := fun o => by
        obtain ⟨a1, a2⟩ := aft_cnt (st := st) (de := de) (sg := sg) (out := out) (o := o)
        unfold xw
        rw [a2, if_neg (by omega)]
        omega
      rcases md with _ | _ | _ | md
      · show match stp0 st de sg out c with
          | .inl S1 => S1.2.2.2.2.2.length + S1.2.2.1.length + xw S1 ≤ out.length + st.length + 0 + 1
          | .inr q => q.2.length ≤ out.length + st.length + 0
        unfold stp0
        by_cases q1 : c.1 = 40 ∨ c.1 = 45
        · rw [if_pos q1]
          by_cases q2 : 8 ≤ de
          · rw [if_pos q2]
            show out.length ≤ _
            omega
          · rw [if_neg q2]
            show out.length + (st.length + 1) + 0 ≤ _
            omega
        rw [if_neg q1]
        by_cases q2 : c.1 = 129
        · rw [if_pos q2]; exact one _
        rw [if_neg q2]
        by_cases q3 : c.1 = 138
        · rw [if_pos q3]; exact one _
        rw [if_neg q3]
        by_cases q4 : c.1 = 139
        · rw [if_pos q4]; exact one _
        rw [if_neg q4]
        by_cases q5 : c.1 = 140
        · rw [if_pos q5]; exact one _
        rw [if_neg q5]
        by_cases q6 : c.1 = 128
        · rw [if_pos q6]
          show out.length + st.length + 1 ≤ _
          omega
        rw [if_neg q6]
        show out.length ≤ _
        omega
      · have := stp1_cnt (st := st) (de := de) (sg := sg) (out := out) (k := c.1)
        show match stp1 st de sg out c.1 with
          | .inl S1 => S1.2.2.2.2.2.length + S1.2.2.1.length + xw S1 ≤ out.length + st.length + 0 + 1
          | .inr q => q.2.length ≤ out.length + st.length + 0
        cases he : stp1 st de sg out c.1 with
        | inl S1 =>
          rw [he] at this
          obtain ⟨x1, x2⟩ := this
          show _ + _ + xw S1 ≤ _
          unfold xw
          rw [if_neg (by omega)]
          omega
        | inr q => rw [he] at this; exact this
      · show match (if c.1 = 46 then Sum.inl (3, p, st, de, sg, out) else stp1 (aft st de sg out (2, p, 0, 0)).2.2.1 (aft st de sg out (2, p, 0, 0)).2.2.2.1 sg (aft st de sg out (2, p, 0, 0)).2.2.2.2.2 c.1) with
          | .inl S1 => S1.2.2.2.2.2.length + S1.2.2.1.length + xw S1 ≤ out.length + st.length + 1 + 1
          | .inr q => q.2.length ≤ out.length + st.length + 1
        by_cases q1 : c.1 = 46
        · rw [if_pos q1]
          show out.length + st.length + 1 ≤ _
          omega
        · rw [if_neg q1]
          obtain ⟨a1, a2⟩ := aft_cnt (st := st) (de := de) (sg := sg) (out := out) (o := (2, p, 0, 0))
          have := stp1_cnt (st := (aft st de sg out (2, p, 0, 0)).2.2.1) (de := (aft st de sg out (2, p, 0, 0)).2.2.2.1) (sg := sg) (out := (aft st de sg out (2, p, 0, 0)).2.2.2.2.2) (k := c.1)
          cases he : stp1 (aft st de sg out (2, p, 0, 0)).2.2.1 (aft st de sg out (2, p, 0, 0)).2.2.2.1 sg (aft st de sg out (2, p, 0, 0)).2.2.2.2.2 c.1 with
          | inl S1 =>
            rw [he] at this
            obtain ⟨x1, x2⟩ := this
            show _ + _ + xw S1 ≤ _
            unfold xw
            rw [if_neg (by omega)]
            omega
          | inr q =>
            rw [he] at this
            show q.2.length ≤ _
            have this : q.2.length ≤ _ := this
            omega
      · show match (if c.1 = 128 then Sum.inl (aft st de sg out (3, p, c.2.1, 0)) else Sum.inr (false, out)) with
          | .inl S1 => S1.2.2.2.2.2.length + S1.2.2.1.length + xw S1 ≤ out.length + st.length + xw (md + 1 + 1 + 1, p, st, de, sg, out) + 1
          | .inr q => q.2.length ≤ out.length + st.length + xw (md + 1 + 1 + 1, p, st, de, sg, out)
        by_cases q1 : c.1 = 128
        · rw [if_pos q1]
          have := one (3, p, c.2.1, 0)
          show _ + _ + _ ≤ _
          omega
        · rw [if_neg q1]
          show out.length ≤ _
          omega
    rw [pE]
    cases he : stp S c with
    | inl S1 =>
      rw [he] at key
      have := ih S1
      simp only [List.length_cons]
      have key : _ + _ + xw S1 ≤ _ := key
      omega
    | inr q =>
      rw [he] at key
      have key : q.2.length ≤ _ := key
      show q.2.length + (c :: rs).length ≤ _
      omega
theorem pX_cnt (l : List Tok) : (pX l).2.1.length + (pX l).2.2.length ≤ l.length := by
  have := pE_cnt l (0, 0, [], 0, 0, [])
  exact Nat.le_trans this (by simp [xw])
theorem OE.arr {m m1 : MM} {d tt : Nat} (h : OE m m1 d tt) {o : Nat} (h1 : 3 ≤ o) (h2 : o ≤ 29 ∨ o = 38) (j : Nat) : gI m1 (d + o) j = gI m (d + o) j := congrFun (h.2.2.1 (d + o) (by omega)) j
theorem QP.eq {m m1 : MM} {d tt : Nat} {B : Nat → Int32} {K : List Ko} {P : List Enm} (h : QP m d tt B K P) (o : ∀ i, 3 ≤ i → i ≤ 23 ∨ i = 38 → m1.1 (d + i) = m.1 (d + i)) : QP m1 d tt B K P := by
  refine ⟨?_, fun e E hE => (h.2 e E hE).eq (fun i i1 i2 => o i (by omega) i2)⟩
  rw [show gI m1 (d + 3) tt = gI m (d + 3) tt from congrFun (o 3 (by omega) (by omega)) _]
  exact h.1
theorem aK_app (K X : List Ko) : aK (K ++ X) = aK K ++ aK X := List.filter_append ..
theorem aK_ops {en so c : Nat} : ∀ (ops : List Op), (∀ o ∈ ops, opB o) → aK (ops.map (kox en so c)) = ops.map (kox en so c) := by
  intro ops h
  unfold aK
  rw [List.filter_eq_self]
  intro q hq
  obtain ⟨o, ho, rfl⟩ := List.mem_map.mp hq
  have := h o ho
  simp [isA, kox, this.1, this.2.1]
theorem aK_ex {K : List Ko} {en so c : Nat} {ops : List Op} (h : ∀ o ∈ ops, opB o) : aK (K ++ ops.map (kox en so c) ++ [stK en so c]) = aK K ++ ops.map (kox en so c) := by
  rw [aK_app, aK_app, aK_ops ops h]
  simp [aK, isA, stK]
theorem SG_ex {K : List Ko} {en so c : Nat} {ops : List Op} (h : ∀ o ∈ ops, opB o) : SG (K ++ ops.map (kox en so c) ++ [stK en so c]) K.length (ops.map (kox en so c)) :=
  ⟨K, [], stK en so c, by simp, rfl, rfl, fun q hq => by
    obtain ⟨o, ho, rfl⟩ := List.mem_map.mp hq
    exact h o ho⟩
theorem ct_len {K X : List Ko} : ct (K ++ X) K.length = (aK K).length := by
  rw [ct_app (Nat.le_refl _)]
  unfold ct
  rw [List.take_length]
def RT (G : GG) (m : MM) (d tt len : Nat) (B : Nat → Int32) (K : List Ko) (Q : List Enm) (E : Enm) (l : List Tok) : Prop := RE G m d tt len B Q.length (aK K) [] l none ∧ QP m d tt B K (Q ++ [E]) ∧ GV m d tt B K ∧ PB (Q ++ [E]) ∧ 4 * (gvi 0 K).length + l.length ≤ 2001 ∧ K.length + l.length ≤ 2001
def RG (G : GG) (m : MM) (d tt len : Nat) (B : Nat → Int32) (X : Option (Unit × MM)) (K : List Ko) (Q : List Enm) (E : Enm) (r : List Tok) : Prop := ∃ m1, X = some ((), m1) ∧ OH m m1 d tt ∧ RT G m1 d tt len B K Q E r
def RB (G : GG) (m : MM) (d tt len : Nat) (B : Nat → Int32) (X : Option (Unit × MM)) (e : Nat) (r : List Tok) : Prop := ∃ m1 A l1, X = some ((), m1) ∧ OH m m1 d tt ∧ RE G m1 d tt len B e A [] l1 (some (plc r))
theorem RG.tr {G : GG} {m m0 : MM} {d tt len : Nat} {B : Nat → Int32} {X : Option (Unit × MM)} {K : List Ko} {Q : List Enm} {E : Enm} {r : List Tok} (o : OH m0 m d tt) (h : RG G m d tt len B X K Q E r) : RG G m0 d tt len B X K Q E r := by
  obtain ⟨m1, h1, h2, h3⟩ := h
  exact ⟨m1, h1, o.tr h2, h3⟩
theorem RB.tr {G : GG} {m m0 : MM} {d tt len e : Nat} {B : Nat → Int32} {X : Option (Unit × MM)} {r : List Tok} (o : OH m0 m d tt) (h : RB G m d tt len B X e r) : RB G m0 d tt len B X e r := by
  obtain ⟨m1, A, l1, h1, h2, h3⟩ := h
  exact ⟨m1, A, l1, h1, o.tr h2, h3⟩
theorem RE.tok {G : GG} {m : MM} {d tt len e : Nat} {B : Nat → Int32} {A : List Ko} {st : List Nat} {l : List Tok} {F : Option Nat} (h : RE G m d tt len B e A st l F) : ∃ t rs, l = t :: rs ∧ MT m d B t ∧ t.1 < 256 ∧ t.2.1 < 4096 ∧ t.2.2 < 1000000000 ∧ (∀ x ∈ l, x.2.1 < 4096 ∧ x.2.2 < 1000000000) := by
  obtain ⟨t, rs, p1, z1, z2, z3, z4, z5, z6⟩ := h.2.2.2.1
  obtain ⟨b1, b2, b3⟩ := z6 t (by rw [z1]; simp)
  exact ⟨t, rs, z1, z2, b1, b2, b3, fun x hx => (z6 x hx).2⟩
theorem gi_tt {m : MM} {d tt len : Nat} {B : Nat → Int32} (h : TM m d tt len B) : gI m d 4 = nI tt := h.1
theorem mc_badL {G : GG} {m : MM} {d tt len e p fu : Nat} {x1 : Int32} {B : Nat → Int32} {A : List Ko} {l : List Tok} (h : RE G m d tt len B e A [] l (some p)) : B_X11_readConst_169 G (fu + 1) d x1 m = some ((), m) := by
  rw [B_X11_readConst_169, bd_e h.gF, if_neg ff, bd_e h.needB]
/-- behind a fault, the rest of a give -/
theorem mc_badG {G : GG} {m : MM} {d tt len e p fu k : Nat} {x1 v : Int32} {B : Nat → Int32} {A : List Ko} {l : List Tok} (h : RE G m d tt len B e A [] l (some p)) (hk : 520 * tt ≤ k ∧ k < 520 * tt + 520) (ht : tt ≤ 1) : ∃ m1, (nb (gR m d 32) fun b_19 => nb (gR m d 33) fun b_20 => ib (gI m d 4) (G.2.2 b_20) <| ib (nI k) (G.2.2 b_19) <| bd (M_X11_need G d 59 (sI m b_19 ((nI k).toNatClampNeg) (gI m b_20 ((gI m d 4).toNatClampNeg)))) fun _ m_22 => nb (gR m_22 d 27) fun b_23 => ib (gI m_22 d 4) (G.2.2 b_23) <| ib (gI m_22 d 4) (G.2.2 b_23) <| B_X11_readConst_169 G (fu + 1) d x1 (sI m_22 b_23 ((gI m_22 d 4).toNatClampNeg) ((gI m_22 b_23 ((gI m_22 d 4).toNatClampNeg)) + 1))) = some ((), m1) ∧ OH m m1 d tt ∧ RE G m1 d tt len B e A [] l (some p) := by
  have hL := h.1
  have h4 := h.2.1.1
  have cl : (nI tt).toNatClampNeg = tt := nI_clamp (by omega)
  rw [nb_e (mr_32 hL), nb_e (mr_33 hL), mz_33 hL, h4, ib_n (by omega) (by omega), mz_32 hL, ib_n (by omega) (by omega), nI_clamp (show k < 2 ^ 31 by omega), cl]
  have h2 := h.wr (o := 29) (k := k) (v := gI m (d + 30) tt) (by omega) (by omega)
  rw [bd_e h2.needB, nb_e (mr_27 h2.1), mz_27 h2.1, h2.2.1.1, ib_n (by omega) (by omega), ib_n (by omega) (by omega), cl]
  have h3 := h2.wr (o := 24) (k := tt) (v := gI (sI m (d + 29) k (gI m (d + 30) tt)) (d + 24) tt + 1) (by omega) (by omega)
  rw [mc_badL h3]
  exact ⟨_, rfl, (OH.a (by omega) (by omega) (by show 520 * tt ≤ k; omega) (by show k < 520 * tt + 520; omega)).tr (OH.a (by omega) (by omega) (by show 1 * tt ≤ tt; omega) (by show tt < 1 * tt + 1; omega)), h3⟩
theorem mc_gives {G : GG} {d tt len c : Nat} {B : Nat → Int32} {Q : List Enm} {E : Enm} (hc : c < 12) : ∀ (fu f : Nat) (m : MM) (K : List Ko) (l : List Tok), RT G m d tt len B K Q E l → l.length < fu → l.length < f → (∀ K1 r, pGv Q.length c f K l = (some K1, r) → RG G m d tt len B (B_X11_readConst_169 G fu d (nI (12 * (8 * tt + Q.length) + c)) m) K1 Q E r) ∧ ∀ r, pGv Q.length c f K l = (none, r) → RB G m d tt len B (B_X11_readConst_169 G fu d (nI (12 * (8 * tt + Q.length) + c)) m) Q.length r := by
  intro fu
  induction fu with
  | zero => intro f m K l _ hf; exact absurd hf (by omega)
  | succ fu ih =>
    intro f m K l h hf hf2
    cases f with
    | zero => exact absurd hf2 (by omega)
    | succ f =>
      obtain ⟨h1, h2, h3, h4, h5, h6⟩ := h
      obtain ⟨t, rs, el, z2, b1, b2, b3, b4⟩ := h1.tok
      subst el
      have ht := h1.2.1.2.1
      have hL := h1.1
      have hgt := h1.2.1.1
      have he8 := h1.2.2.2.2.2.2.2.2.2.2
      obtain ⟨-, c1, -⟩ := tc_all t.1 b1
      rw [B_X11_readConst_169, bd_e h1.gT, if_pos rfl, z2.2.1, pGv]
      by_cases q : ¬ t.1 = 128
      · rw [if_neg (fun z => q (c1.mp z)), if_neg (show ¬ hd (t :: rs) = 128 from q), show (125 : Int32) = nI 125 from rfl]
        obtain ⟨n1, n2⟩ := h1.need (w := 125) (by omega)
        by_cases q2 : hd (t :: rs) = 125
        · obtain ⟨m1, e1, e2, e3, e4, e5⟩ := n1 q2
          rw [bd_e e1, if_pos q2]
          refine ⟨fun K1 r z => ?_, fun r z => by simp at z⟩
          cases z
          exact ⟨m1, rfl, e3.H, e2, h2.oe e3, h3.oe e3, h4, by simp only [List.length_cons, List.tail_cons] at h5 ⊢; omega, by simp only [List.length_cons, List.tail_cons] at h6 ⊢; omega⟩
        · obtain ⟨m1, e1, e2, e3⟩ := n2 q2
          rw [bd_e e1, if_neg q2]
          refine ⟨fun K1 r z => by simp at z, fun r z => ?_⟩
          cases z
          exact ⟨m1, _, _, rfl, e3.H, e2⟩
      have q : t.1 = 128 := Decidable.not_not.mp q
      rw [if_pos (c1.mpr q), if_pos (show hd (t :: rs) = 128 from q)]
      -- the give's own rows
      obtain ⟨g, eg⟩ : ∃ g, (gvi 0 K).length = g := ⟨_, rfl⟩
      have h24 := h3.1
      rw [eg] at h24 h5
      rw [List.length_cons] at h5 h6 hf hf2
      have cl : (nI tt).toNatClampNeg = tt := nI_clamp (by omega)
      have ek : (520 : Int32) * nI tt + nI g = nI (520 * tt + g) := by rw [show (520 : Int32) = nI 520 from rfl, pk_mul, nI_add]
      have ck : (nI (520 * tt + g)).toNatClampNeg = 520 * tt + g := nI_clamp (by omega)
      rw [nb_e (mr_27 hL), mz_27 hL, hgt, ib_n (by omega) (by omega), cl, h24, ek, nb_e (mr_28 hL), mz_28 hL, ib_n (by omega) (by omega), ck]
      simp only [gR_sI]
      have gg : ∀ (mz : MM) (o k j : Nat) (v : Int32), gI (sI mz (d + (o + 1)) k v) d j = gI mz d j := fun mz o k j v => gI_sI_ne (Or.inl (by omega))
      rw [nb_e (mr_29 hL), mz_29 hL, ib_n (by omega) (by omega), nb_e (mr_30 hL), mz_30 hL, ib_n (by omega) (by omega)]
      simp only [gg _ 24, gg _ 25, gg _ 26]
      rw [z2.1, z2.2.2.2.2 (Or.inl q)]
      obtain ⟨mA, eA⟩ : ∃ mA, sI (sI (sI m (d + 25) (520 * tt + g) (nI (12 * (8 * tt + Q.length) + c))) (d + 26) (520 * tt + g) (nI t.2.1)) (d + 27) (520 * tt + g) (nI (nl B t.2.1)) = mA := ⟨_, rfl⟩
      rw [eA]
      have hA : RE G mA d tt len B Q.length (aK K) [] (t :: rs) none := by
        rw [← eA]
        exact ((h1.wr (by omega) (by omega)).wr (by omega) (by omega)).wr (by omega) (by omega)
      have ohg : ∀ (mz : MM) (o : Nat) (v : Int32), 25 ≤ o → o ≤ 29 → OH mz (sI mz (d + o) (520 * tt + g) v) d tt := fun mz o v o1 o2 => by
        have : hsz o = 520 := by rcases (show o = 25 ∨ o = 26 ∨ o = 27 ∨ o = 28 ∨ o = 29 by omega) with rfl | rfl | rfl | rfl | rfl <;> rfl
        exact OH.a (by omega) (by omega) (by rw [this]; omega) (by rw [this]; omega)
      have oA : OH m mA d tt := by
        rw [← eA]
        exact ((ohg _ 25 _ (by omega) (by omega)).tr (ohg _ 26 _ (by omega) (by omega))).tr (ohg _ 27 _ (by omega) (by omega))
      obtain ⟨mB, e1, e2, e3, e4⟩ := hA.next (show t.1 ≠ 130 by omega)
      have oeB : OE mA mB d tt := e3.oh (by simp)
      have htl : (t :: rs).tail = rs := rfl
      rw [htl] at e2 e4 ⊢
      rw [bd_e e1, show (61 : Int32) = nI 61 from rfl, show plc (t :: rs) = t.2.1 from rfl]
      obtain ⟨n1, n2⟩ := e2.need (w := 61) (by omega)
      obtain ⟨fu', rfl⟩ : ∃ fu', fu = fu' + 1 := ⟨fu - 1, by omega⟩
      -- behind the sign, or behind a fault
      have bad : ∀ (mz : MM) (A : List Ko) (l1 r : List Tok), RE G mz d tt len B Q.length A [] l1 (some (plc r)) → OH m mz d tt → ∃ m9 A1 l2, (bd (M_X11_readExp G d mz) fun _ m_18 => nb (gR m_18 d 32) fun b_19 => nb (gR m_18 d 33) fun b_20 => ib (gI m_18 d 4) (G.2.2 b_20) <| ib (nI (520 * tt + g)) (G.2.2 b_19) <| bd (M_X11_need G d 59 (sI m_18 b_19 ((nI (520 * tt + g)).toNatClampNeg) (gI m_18 b_20 ((gI m_18 d 4).toNatClampNeg)))) fun _ m_22 => nb (gR m_22 d 27) fun b_23 => ib (gI m_22 d 4) (G.2.2 b_23) <| ib (gI m_22 d 4) (G.2.2 b_23) <| B_X11_readConst_169 G (fu' + 1) d (nI (12 * (8 * tt + Q.length) + c)) (sI m_22 b_23 ((gI m_22 d 4).toNatClampNeg) ((gI m_22 b_23 ((gI m_22 d 4).toNatClampNeg)) + 1))) = some ((), m9) ∧ OH m m9 d tt ∧ RE G m9 d tt len B Q.length A1 [] l2 (some (plc r)) := by
        intro mz A l1 r hz oz
        obtain ⟨my, y1, y2, y3⟩ := mm_expB hz
        rw [bd_e y1]
        obtain ⟨m9, x1, x2, x3⟩ := mc_badG (fu := fu') (x1 := nI (12 * (8 * tt + Q.length) + c)) (v := 0) y3 ⟨by omega, by omega⟩ ht (k := 520 * tt + g)
        exact ⟨m9, A, l1, x1, (oz.tr y2.H).tr x2, x3⟩
      unfold pEx
      by_cases q61 : ¬ hd rs = 61
      · obtain ⟨mC, f1, f2, f3⟩ := n2 q61
        rw [bd_e f1, if_neg q61, nb_e (mr_31 f2.1), nb_e (mr_33 f2.1), mz_33 f2.1, f2.2.1.1, ib_n (by omega) (by omega), mz_31 f2.1, ib_n (by omega) (by omega), cl]
        have hD := f2.wr (o := 28) (k := 520 * tt + g) (v := gI mC (d + 30) tt) (by omega) (by omega)
        obtain ⟨m9, A1, l2, x1, x2, x3⟩ := bad _ _ _ _ hD (((oA.tr oeB.H).tr f3.H).tr (ohg _ 28 _ (by omega) (by omega)))
        rw [ck] at x1
        refine ⟨fun K1 r z => by simp at z, fun r z => ?_⟩
        cases z
        exact ⟨m9, A1, l2, x1, x2, x3⟩
      have q61 : hd rs = 61 := Decidable.not_not.mp q61
      obtain ⟨mC, f1, f2, f3, f4, f5⟩ := n1 q61
      rw [bd_e f1, if_pos q61, nb_e (mr_31 f2.1), nb_e (mr_33 f2.1), mz_33 f2.1, f2.2.1.1, ib_n (by omega) (by omega), mz_31 f2.1, ib_n (by omega) (by omega), cl, f2.2.2.2.2.1.1]
      have hD := f2.wr (o := 28) (k := 520 * tt + g) (v := nI (aK K).length) (by omega) (by omega)
      have oD : OH m (sI mC (d + 28) (520 * tt + g) (nI (aK K).length)) d tt := ((oA.tr oeB.H).tr f3.H).tr (ohg _ 28 _ (by omega) (by omega))
      obtain ⟨mF, i1, i2, i3, i4⟩ := mm_exp (c := c) hD (by rw [List.length_nil] at f4; omega)
      have hops : ∀ z ∈ (pX rs.tail).2.1, opB z := pX_ok (fun x hx => b4 x (by simp only [List.mem_cons]; exact Or.inr (List.mem_of_mem_tail hx)))
      have hpr : ∀ l1, pX rs.tail = l1 → l1 = pX rs.tail := fun l1 z => z.symm
      cases hb : (pX rs.tail).1 with
      | false =>
        obtain ⟨A1, l1, r1⟩ := i4 hb
        rw [bd_e i1, if_neg ff]
        obtain ⟨m9, x1, x2, x3⟩ := mc_badG (fu := fu') (x1 := nI (12 * (8 * tt + Q.length) + c)) (v := 0) r1 ⟨by omega, by omega⟩ ht (k := 520 * tt + g)
        rw [ck] at x1
        refine ⟨fun K1 r z => by simp at z, fun r z => ?_⟩
        cases z
        exact ⟨m9, A1, l1, x1, (oD.tr i2.H).tr x2, x3⟩
      | true =>
        have r1 := i3 hb
        rw [bd_e i1, if_pos rfl, nb_e (mr_32 r1.1), nb_e (mr_33 r1.1), mz_33 r1.1, r1.2.1.1, ib_n (by omega) (by omega), mz_32 r1.1, ib_n (by omega) (by omega), cl, r1.2.2.2.2.1.1]
        have hG := r1.wr (o := 29) (k := 520 * tt + g) (v := nI (aK K ++ (pX rs.tail).2.1.map (kox Q.length 0 c)).length) (by omega) (by omega)
        obtain ⟨mG, eG⟩ : ∃ mG, sI mF (d + 29) (520 * tt + g) (nI (aK K ++ (pX rs.tail).2.1.map (kox Q.length 0 c)).length) = mG := ⟨_, rfl⟩
        rw [eG] at hG ⊢
        have oG : OH m mG d tt := by rw [← eG]; exact (oD.tr i2.H).tr (ohg _ 29 _ (by omega) (by omega))
        rw [show (59 : Int32) = nI 59 from rfl]
        obtain ⟨u1, u2⟩ := hG.need (w := 59) (by omega)
        by_cases q59 : ¬ hd (pX rs.tail).2.2 = 59
        · obtain ⟨mH, j1, j2, j3⟩ := u2 q59
          rw [bd_e j1, if_neg q59, nb_e (mr_27 j2.1), mz_27 j2.1, j2.2.1.1, ib_n (by omega) (by omega), ib_n (by omega) (by omega), cl]
          have hI := j2.wr (o := 24) (k := tt) (v := gI mH (d + 24) tt + 1) (by omega) (by omega)
          rw [mc_badL hI]
          refine ⟨fun K1 r z => by simp at z, fun r z => ?_⟩
          cases z
          exact ⟨_, _, _, rfl, (oG.tr j3.H).tr (OH.a (by omega) (by omega) (by show 1 * tt ≤ tt; omega) (by show tt < 1 * tt + 1; omega)), hI⟩
        have q59 := Decidable.not_not.mp q59
        obtain ⟨mH, j1, j2, j3, j4, j5⟩ := u1 q59
        have a24 : ∀ j, gI mH (d + 24) j = gI m (d + 24) j := fun j => by
          rw [j3.arr (by omega) (by omega), ← eG, gI_sI_ne (Or.inl (by omega)), i2.arr (by omega) (by omega), gI_sI_ne (Or.inl (by omega)), f3.arr (by omega) (by omega), oeB.arr (by omega) (by omega), ← eA, gI_sI_ne (Or.inl (by omega)), gI_sI_ne (Or.inl (by omega)), gI_sI_ne (Or.inl (by omega))]
        rw [bd_e j1, if_pos q59, nb_e (mr_27 j2.1), mz_27 j2.1, j2.2.1.1, ib_n (by omega) (by omega), ib_n (by omega) (by omega), cl, a24, h24, nI_1]
        have hI := j2.wr (o := 24) (k := tt) (v := nI (g + 1)) (by omega) (by omega)
        obtain ⟨mI, eI⟩ : ∃ mI, sI mH (d + 24) tt (nI (g + 1)) = mI := ⟨_, rfl⟩
        rw [eI] at hI ⊢
        have oI : OH m mI d tt := by rw [← eI]; exact (oG.tr j3.H).tr (OH.a (by omega) (by omega) (by show 1 * tt ≤ tt; omega) (by show tt < 1 * tt + 1; omega))
        obtain ⟨K1, eK⟩ : ∃ K1, K ++ [gvK Q.length c t.2.1] ++ (pX rs.tail).2.1.map (kox Q.length 0 c) ++ [stK Q.length 0 c] = K1 := ⟨_, rfl⟩
        have eaK : aK K1 = aK K ++ (pX rs.tail).2.1.map (kox Q.length 0 c) := by
          rw [← eK, aK_ex hops, aK_app]
          simp [aK, isA, gvK]
        have hsg : SG K1 (K.length + 1) ((pX rs.tail).2.1.map (kox Q.length 0 c)) := by
          have := SG_ex (K := K ++ [gvK Q.length c t.2.1]) (en := Q.length) (so := 0) (c := c) hops
          rw [eK, List.length_append, List.length_singleton] at this
          exact this
        have hct : ct K1 (K.length + 1) = (aK K).length := by
          have := ct_len (K := K ++ [gvK Q.length c t.2.1]) (X := (pX rs.tail).2.1.map (kox Q.length 0 c) ++ [stK Q.length 0 c])
          rw [← List.append_assoc, eK, List.length_append, List.length_singleton] at this
          rw [this, aK_app]
          simp [aK, isA, gvK]
        have hgv : gvi 0 K1 = gvi 0 K ++ [(K.length, gvK Q.length c t.2.1)] := by
          rw [← eK, List.append_assoc, List.append_assoc, gvi_app, gvi_app]
          have : gvi (0 + K.length + [gvK Q.length c t.2.1].length) ((pX rs.tail).2.1.map (kox Q.length 0 c) ++ [stK Q.length 0 c]) = [] := by
            refine gvi_none _ _ (fun q hq => ?_)
            rw [List.mem_append, List.mem_singleton] at hq
            rcases hq with hq | hq
            · obtain ⟨o, ho, rfl⟩ := List.mem_map.mp hq
              have := (hops o ho).2.1
              show o.1 ≠ 14
              omega
            · rw [hq]
              show 0 ≠ 14
              decide
          rw [this, List.append_nil, Nat.zero_add]
          rfl
        have k25 : ∀ j, gI mI (d + 25) j = if j = 520 * tt + g then nI (12 * (8 * tt + Q.length) + c) else gI m (d + 25) j := fun j => by
          rw [← eI, gI_sI_ne (Or.inl (by omega)), j3.arr (by omega) (by omega), ← eG, gI_sI_ne (Or.inl (by omega)), i2.arr (by omega) (by omega), gI_sI_ne (Or.inl (by omega)), f3.arr (by omega) (by omega), oeB.arr (by omega) (by omega), ← eA]
          simp [gI_sI]
        have k26 : ∀ j, gI mI (d + 26) j = if j = 520 * tt + g then nI t.2.1 else gI m (d + 26) j := fun j => by
          rw [← eI, gI_sI_ne (Or.inl (by omega)), j3.arr (by omega) (by omega), ← eG, gI_sI_ne (Or.inl (by omega)), i2.arr (by omega) (by omega), gI_sI_ne (Or.inl (by omega)), f3.arr (by omega) (by omega), oeB.arr (by omega) (by omega), ← eA]
          simp [gI_sI]
        have k27 : ∀ j, gI mI (d + 27) j = if j = 520 * tt + g then nI (nl B t.2.1) else gI m (d + 27) j := fun j => by
          rw [← eI, gI_sI_ne (Or.inl (by omega)), j3.arr (by omega) (by omega), ← eG, gI_sI_ne (Or.inl (by omega)), i2.arr (by omega) (by omega), gI_sI_ne (Or.inl (by omega)), f3.arr (by omega) (by omega), oeB.arr (by omega) (by omega), ← eA]
          simp [gI_sI]
        have k28 : ∀ j, gI mI (d + 28) j = if j = 520 * tt + g then nI (aK K).length else gI m (d + 28) j := fun j => by
          rw [← eI, gI_sI_ne (Or.inl (by omega)), j3.arr (by omega) (by omega), ← eG, gI_sI_ne (Or.inl (by omega)), i2.arr (by omega) (by omega), gI_sI]
          simp only [true_and]
          rw [f3.arr (by omega) (by omega), oeB.arr (by omega) (by omega), ← eA, gI_sI_ne (Or.inl (by omega)), gI_sI_ne (Or.inl (by omega)), gI_sI_ne (Or.inl (by omega))]
        have k29 : ∀ j, gI mI (d + 29) j = if j = 520 * tt + g then nI (aK K ++ (pX rs.tail).2.1.map (kox Q.length 0 c)).length else gI m (d + 29) j := fun j => by
          rw [← eI, gI_sI_ne (Or.inl (by omega)), j3.arr (by omega) (by omega), ← eG, gI_sI]
          simp only [true_and]
          rw [i2.arr (by omega) (by omega), gI_sI_ne (Or.inl (by omega)), f3.arr (by omega) (by omega), oeB.arr (by omega) (by omega), ← eA, gI_sI_ne (Or.inl (by omega)), gI_sI_ne (Or.inl (by omega)), gI_sI_ne (Or.inl (by omega))]
        have hGV : GV mI d tt B K1 := by
          refine ⟨by rw [hgv, List.length_append, ← eI, gI_sI_eq, eg]; rfl, fun x y hy => ?_⟩
          rw [hgv] at hy
          rcases ap_get hy with ⟨y1, y2⟩ | ⟨y1, y2⟩
          · obtain ⟨a1, a2, a3, s, a4, a5, a6⟩ := h3.2 x y y2
            rw [eg] at y1
            have eKK : K1 = K ++ ([gvK Q.length c t.2.1] ++ (pX rs.tail).2.1.map (kox Q.length 0 c) ++ [stK Q.length 0 c]) := by rw [← eK]; simp
            exact ⟨by rw [k25, if_neg (by omega)]; exact a1, by rw [k26, if_neg (by omega)]; exact a2, by rw [k27, if_neg (by omega)]; exact a3, s, by rw [eKK]; exact a4.app, by rw [k28, if_neg (by omega), eKK, ct_app a4.le]; exact a5, by rw [k29, if_neg (by omega), eKK, ct_app a4.le]; exact a6⟩
          · subst y2
            rw [y1, eg]
            exact ⟨by rw [k25, if_pos rfl]; rfl, by rw [k26, if_pos rfl]; rfl, by rw [k27, if_pos rfl]; rfl, _, hsg, by rw [k28, if_pos rfl, hct], by rw [k29, if_pos rfl, hct, List.length_append, List.length_map]⟩
        have hQP : QP mI d tt B K1 (Q ++ [E]) := by
          have eKK : K1 = K ++ ([gvK Q.length c t.2.1] ++ (pX rs.tail).2.1.map (kox Q.length 0 c) ++ [stK Q.length 0 c]) := by rw [← eK]; simp
          rw [eKK]
          refine (h2.eq (fun i i1 i2' => ?_)).app
          rw [← eI, (sI_off (show d + i ≠ d + 24 by omega)).1, j3.2.2.1 (d + i) (by omega), ← eG, (sI_off (show d + i ≠ d + 29 by omega)).1, i2.2.2.1 (d + i) (by omega), (sI_off (show d + i ≠ d + 28 by omega)).1, f3.2.2.1 (d + i) (by omega), oeB.2.2.1 (d + i) (by omega), ← eA, (sI_off (show d + i ≠ d + 27 by omega)).1, (sI_off (show d + i ≠ d + 26 by omega)).1, (sI_off (show d + i ≠ d + 25 by omega)).1]
        have hlen : (pX rs.tail).2.2.tail.length + 1 ≤ rs.length := by
          have := pX_len rs.tail
          omega
        have hRT : RT G mI d tt len B K1 Q E (pX rs.tail).2.2.tail := by
          refine ⟨by rw [eaK]; exact hI, hQP, hGV, h4, ?_, ?_⟩
          · rw [hgv, List.length_append, List.length_singleton, eg]
            have := pX_len2 rs.tail hb
            omega
          · have := pX_cnt rs.tail
            rw [← eK]
            simp only [List.length_append, List.length_map, List.length_singleton]
            omega
        rw [show (K ++ [gvK Q.length c t.2.1] ++ (pX rs.tail).2.1.map (kox Q.length 0 c) ++ [stK Q.length 0 c]) = K1 from eK]
        obtain ⟨z1, z2⟩ := ih f mI K1 _ hRT (by omega) (by omega)
        exact ⟨fun K2 r z => (z1 K2 r z).tr oI, fun r z => (z2 r z).tr oI⟩
