/-! ===== L2: the Binder, its other steps ===== -/
theorem GP.same {B : Nat → Int32} {P : List Enm} {K : List Ko} {k : Nat} {q : Ko} {gc : Nat → Nat → Nat → Int32} (hG : GP B P (gvi 0 (K.take k)) gc) (hk : K[k]? = some q) (h : q.1.1 ≠ 14) : GP B P (gvi 0 (K.take (k + 1))) gc := by
  rw [gvi_take hk, if_neg h, List.append_nil]
  exact hG
theorem cv_set {G : GG} {m : MM} {n pg tp len k a op f : Nat} {B : Nat → Int32} {P : List Enm} {C : List Int64} {gc : Nat → Nat → Nat → Int32} {s : BS} (hN : PN n pg) (htp : tp = n + 201 ∨ tp = n + 214) (h : CV G m pg tp len B P C gc) (hb : BR m n pg s) (hk : C[k]? = some (lN (a * 16 + op))) (ho : op < 16) (ha : a < 2 ^ 31) (hf : f < 2 ^ 31) : ∃ m1, M_X6_bindTo G pg (nI k) (nI f) m = some ((), m1) ∧ CV G m1 pg tp len B P (C.set k (lN (f * 16 + op))) gc ∧ BR m1 n pg s ∧ OB m m1 n pg ∧ m1.1 = m.1 := by
  unfold PN at hN
  obtain ⟨g1, g2, g3, g4, g5, g6, g7⟩ := h
  obtain ⟨e1, e2⟩ := co_bind g4 hk ho ha hf
  obtain ⟨m1, em⟩ : ∃ m1, sL m (pg + 3) k (lN (f * 16 + op)) = m1 := ⟨_, rfl⟩
  rw [em] at e1 e2
  have o1 : m1.1 = m.1 := by rw [← em]; rfl
  have o2 : m1.2.2 = m.2.2 := by rw [← em]; rfl
  have o3 : Off m m1 [pg + 3] := by rw [← em]; exact Off.sL
  have gI1 : ∀ a j, gI m1 a j = gI m a j := fun a j => by rw [← em]; rfl
  have gR1 : ∀ a j, gR m1 a j = gR m a j := fun a j => by rw [← em]; rfl
  refine ⟨m1, e1, ⟨g1.eq o2, by rw [gR1]; exact g2, g3.kept o3 (by simp; omega) (by simp; omega), e2, by rw [gI1]; exact g5, g6, fun e E hE => ?_⟩, ?_, ⟨fun a _ _ _ => by rw [o1], fun a x _ => (o3 a (by simp; exact x)).2.1, fun a _ => by rw [o2]⟩, o1⟩
  · obtain ⟨a1, a2, a3⟩ := g7 e E hE
    exact ⟨by rw [gI1]; exact a1, a2.kept (fun j _ _ => gI1 _ _) (fun i _ => by rw [o1]), fun c i hc hi => by rw [gI1]; exact a3 c i hc hi⟩
  · obtain ⟨r1, r2, r3, r4, r5⟩ := hb
    exact ⟨by rw [gR1]; exact r1, by rw [gR1]; exact r2, by rw [gR1]; exact r3, by rw [gI1]; exact r4, by rw [gI1]; exact r5⟩
theorem FS.eq1 {m m1 : MM} {fa : Nat} {F : Nat × Nat} (h : FS m fa F) (o : m1.1 = m.1) : FS m1 fa F := by
  obtain ⟨h1, h2, h3⟩ := h
  exact ⟨by rw [show gI m1 fa 0 = gI m fa 0 from congrFun (congrFun o fa) 0]; exact h1, by rw [show gI m1 fa 1 = gI m fa 1 from congrFun (congrFun o fa) 1]; exact h2, h3⟩
theorem bind_field {G : GG} {m : MM} {n pg tp len k : Nat} {B : Nat → Int32} {P : List Enm} {K : List Ko} {C : List Int64} {gc : Nat → Nat → Nat → Int32} {F : Nat × Nat} {S : Nat × Nat → Prop} {s : BS} {q : Ko} (hN : PN n pg) (htp : tp = n + 201 ∨ tp = n + 214) (h : CV G m pg tp len B P C gc) (hb : BR m n pg s) (hF : FS m (n + 203) F) (hM : MF S F) (hG : GP B P (gvi 0 (K.take k)) gc) (hk : K[k]? = some q) (hC : C[k]? = some (encK q)) (h2 : q.1.1 = 2) (hs1 : s.1 = q.2.1 + 1) (hs2 : s.2.2 = decide (q.2.2.1 = 2)) (hp : q.1.2.1 < 4096) (he : q.2.1 < P.length) : SB G m n pg tp len B P K k (C.set k (bcd B P q)) s (M_X0_bindField G (n + 209) (nI k) (nI q.1.2.1) m) (fun x => S x ∨ cO B K P k q x) := by
  obtain ⟨E, hE⟩ := lt_get he
  obtain ⟨b1, b2, b3, b4, b5, b6, b7⟩ := pb_en h.2.2.2.2.2.1 hE
  obtain ⟨r1, r2, r3, r4, r5⟩ := id hb
  rw [if_neg (by omega), show s.1 - 1 = q.2.1 by omega] at r3
  have hGP := hG.same hk (by omega)
  have hcO : ∀ x, cO B K P k q x ↔ ((fn B q.1.2.1 (flp E) = none ∧ x = (6, q.1.2.1)) ∨ ∃ f y, fn B q.1.2.1 (flp E) = some f ∧ q.2.2.1 = 2 ∧ (fls E.2.2)[f]? = some y ∧ y.1 = 7 ∧ x = (5, q.1.2.1)) := fun x => by
    constructor
    · intro w
      rcases w with ⟨w, -⟩ | ⟨-, E', hE', w⟩ | ⟨w, -⟩
      · omega
      · rw [hE] at hE'
        cases hE'
        exact w
      · omega
    · intro w
      exact Or.inr (Or.inl ⟨h2, E, hE, w⟩)
  unfold M_X0_bindField
  rw [el_e r3, nb_e r1, nb_e h.2.1, nb_e (cv_le h he 6 (by omega)).1, show pg + 4 + 12 * q.2.1 + 1 + 6 = pg + 4 + 12 * q.2.1 + 7 by omega, bd_e (cv_fld h hE hp)]
  have hen : encK q = lN (opa q * 16 + 2) := by rw [encK_a, h2]
  have hopa : opa q < 2 ^ 31 := by
    unfold opa
    rw [if_neg (by omega), if_neg (by omega), if_pos h2]
    omega
  -- the field is bound
  have bnd : ∀ f, fn B q.1.2.1 (flp E) = some f → f < 6 → ¬ (q.2.2.1 = 2 ∧ wkd E f = true) → SB G m n pg tp len B P K k (C.set k (bcd B P q)) s (nb (gR m (n + 209) 0) fun b_8 => bd (M_X6_bindTo G b_8 (nI k) (nI f) m) fun _ m_10 => some ((), m_10)) (fun x => S x ∨ cO B K P k q x) := fun f hf hf6 hnw => by
    have ebc : bcd B P q = lN (f * 16 + 2) := by
      unfold bcd
      rw [if_pos h2, hE]
      dsimp only
      rw [hf]
      dsimp only
      rw [if_neg hnw]
    obtain ⟨m1, e1, e2, e3, e4, e5⟩ := cv_set (f := f) hN htp h hb (hC.trans (congrArg some hen)) (by omega) hopa (by omega)
    rw [nb_e r1, bd_e e1, ebc]
    refine ⟨m1, F, gc, rfl, e2, e3, hF.eq1 e5, hM.cg (fun x => ⟨Or.inl, fun w => ?_⟩), hGP, e4⟩
    rw [hcO] at w
    rcases w with w | ⟨w, -⟩ | ⟨f', y, w1, w2, w3, w4, -⟩
    · exact w
    · rw [hf] at w
      simp at w
    · rw [hf] at w1
      cases w1
      exact absurd ⟨w2, by unfold wkd; rw [w3]; simp [w4]⟩ hnw
  cases hf : fn B q.1.2.1 (flp E) with
  | none =>
    have ebc : bcd B P q = encK q := by
      unfold bcd
      rw [if_pos h2, hE]
      dsimp only
      rw [hf]
    rw [if_pos (show oI none = -1 from rfl), nb_e r2, ebc, set_same hC]
    obtain ⟨m1, e1, e2, e3, e4, e5, e6, e7⟩ := cv_note (k := 6) hN htp h hb hF hM (by omega) (by omega) hp
    rw [show (6 : Int32) = nI 6 from rfl, bd_e e1]
    exact ⟨m1, _, gc, rfl, e2, e3, e4, e5.cg (fun x => by rw [hcO]; simp [hf]), hGP, e6⟩
  | some f =>
    have hfl := fn_lt hf
    simp only [flp, List.length_map] at hfl
    obtain ⟨y, hy⟩ := lt_get hfl
    rw [if_neg (show ¬ oI (some f) = -1 from fun w => nI_pos (n := f) (by omega) (by rw [show nI f = -1 from w]; decide)), r5, show oI (some f) = nI f from rfl]
    by_cases s2 : q.2.2.1 = 2
    · rw [hs2, decide_eq_true s2, if_neg (show ¬ bz true = 0 by decide), nb_e r3, bd_e (cv_wrk h hE hy)]
      by_cases y7 : y.1 = 7
      · have ebc : bcd B P q = encK q := by
          unfold bcd
          rw [if_pos h2, hE]
          dsimp only
          rw [hf]
          dsimp only
          rw [if_pos ⟨s2, by unfold wkd; rw [hy]; simp [y7]⟩]
        rw [decide_eq_true y7, if_pos rfl, nb_e r2, ebc, set_same hC]
        obtain ⟨m1, e1, e2, e3, e4, e5, e6, e7⟩ := cv_note (k := 5) hN htp h hb hF hM (by omega) (by omega) hp
        rw [show (5 : Int32) = nI 5 from rfl, bd_e e1]
        refine ⟨m1, _, gc, rfl, e2, e3, e4, e5.cg (fun x => ?_), hGP, e6⟩
        rw [hcO]
        constructor
        · exact fun w => w.imp id (fun w => Or.inr ⟨f, y, hf, s2, hy, y7, w⟩)
        · intro w
          rcases w with w | ⟨w, -⟩ | ⟨f', y', -, -, -, -, w⟩
          · exact Or.inl w
          · rw [hf] at w
            simp at w
          · exact Or.inr w
      · rw [decide_eq_false y7, if_neg ff]
        exact bnd f hf (by omega) (fun w => by unfold wkd at w; rw [hy] at w; simp [y7] at w)
    · rw [hs2, decide_eq_false s2, if_pos (show bz false = 0 by decide)]
      exact bnd f hf (by omega) (fun w => s2 w.1)
theorem bind_const {G : GG} {m : MM} {n pg tp len k : Nat} {B : Nat → Int32} {P : List Enm} {K : List Ko} {C : List Int64} {gc : Nat → Nat → Nat → Int32} {F : Nat × Nat} {S : Nat × Nat → Prop} {s : BS} {q : Ko} (hN : PN n pg) (htp : tp = n + 201 ∨ tp = n + 214) (h : CV G m pg tp len B P C gc) (hb : BR m n pg s) (hF : FS m (n + 203) F) (hM : MF S F) (hG : GP B P (gvi 0 (K.take k)) gc) (hk : K[k]? = some q) (hC : C[k]? = some (encK q)) (h3 : q.1.1 = 3) (hp : q.1.2.1 < 4096) (hp2 : q.1.2.2.1 < 4096) : SB G m n pg tp len B P K k (C.set k (bcd B P q)) s (M_X0_bindConstant G (n + 209) (nI k) (nI q.1.2.1) (nI q.1.2.2.1) m) (fun x => S x ∨ cO B K P k q x) := by
  obtain ⟨r1, r2, r3, r4, r5⟩ := id hb
  have hGP := hG.same hk (by omega)
  have hPl := h.2.2.2.2.2.1.1
  have hcO : ∀ x, cO B K P k q x ↔ (cst B P q.1.2.1 q.1.2.2.1 = none ∧ x = (6, q.1.2.1)) := fun x => by
    constructor
    · intro w
      rcases w with ⟨w, -⟩ | ⟨w, -⟩ | ⟨-, w⟩
      · omega
      · omega
      · exact w
    · intro w
      exact Or.inr (Or.inr ⟨h3, w⟩)
  have hen : encK q = lN (opa q * 16 + 3) := by rw [encK_a, h3]
  have hopa : opa q < 2 ^ 31 := by
    unfold opa
    rw [if_neg (by omega), if_neg (by omega), if_neg (by omega), if_pos h3]
    omega
  have bad : ∀ x4, cst B P q.1.2.1 q.1.2.2.1 = none → SB G m n pg tp len B P K k (C.set k (bcd B P q)) s (B_X0_bindConstant_68 G (n + 209) (nI k) (nI q.1.2.1) x4 (-1) m) (fun x => S x ∨ cO B K P k q x) := fun x4 hn => by
    have ebc : bcd B P q = encK q := by
      unfold bcd
      rw [if_neg (by omega), if_pos h3, hn]
    unfold B_X0_bindConstant_68
    rw [if_pos rfl, nb_e r2, ebc, set_same hC]
    obtain ⟨m1, e1, e2, e3, e4, e5, e6, e7⟩ := cv_note (k := 6) hN htp h hb hF hM (by omega) (by omega) hp
    rw [show (6 : Int32) = nI 6 from rfl, bd_e e1]
    exact ⟨m1, _, gc, rfl, e2, e3, e4, e5.cg (fun x => by rw [hcO]; simp [hn]), hGP, e6⟩
  unfold M_X0_bindConstant
  have hen2 := cv_enu h hp P.length (Nat.le_refl _)
  rw [List.take_of_length_le (by simp [enp])] at hen2
  rw [nb_e r1, nb_e h.2.1, nb_e h.1.2.1, h.2.2.2.2.1, bd_e hen2, nb_e r1]
  cases hf : fn B q.1.2.1 (enp P) with
  | none =>
    rw [show oI none = (-1 : Int32) from rfl, bd_e cv_en0, el_n rfl]
    exact bad _ (by unfold cst; rw [hf])
  | some e =>
    have hel := fn_lt hf
    simp only [enp, List.length_map] at hel
    obtain ⟨E, hE⟩ := lt_get hel
    obtain ⟨b1, b2, b3, b4, b5, b6, b7⟩ := pb_en h.2.2.2.2.2.1 hE
    rw [show oI (some e) = nI e from rfl, bd_e (cv_en h hel), el_e rfl, nb_e r1, nb_e h.2.1, nb_e (cv_le h hel 0 (by omega)).1, show pg + 4 + 12 * e + 1 + 0 = pg + 4 + 12 * e + 1 by omega, bd_e (cv_con h hE hp2)]
    cases hc : fn B q.1.2.2.1 (csp E) with
    | none => exact bad _ (by unfold cst; rw [hf]; dsimp only; rw [hE]; dsimp only; rw [hc])
    | some c =>
      have hcl := fn_lt hc
      simp only [csp, List.length_map] at hcl
      have hcs : cst B P q.1.2.1 q.1.2.2.1 = some (e, c) := by unfold cst; rw [hf]; dsimp only; rw [hE]; dsimp only; rw [hc]
      have ebc : bcd B P q = lN ((e * 12 + c) * 16 + 3) := by
        unfold bcd
        rw [if_neg (by omega), if_pos h3, hcs]
      unfold B_X0_bindConstant_68
      obtain ⟨m1, e1, e2, e3, e4, e5⟩ := cv_set (f := e * 12 + c) hN htp h hb (hC.trans (congrArg some hen)) (by omega) hopa (by omega)
      rw [if_neg (show ¬ oI (some c) = -1 from fun w => nI_pos (n := c) (by omega) (by rw [show nI c = -1 from w]; decide)), nb_e r1, show oI (some c) = nI c from rfl, show (12 : Int32) = nI 12 from rfl, pk_mul, nI_add, bd_e e1, ebc]
      exact ⟨m1, F, gc, rfl, e2, e3, hF.eq1 e5, hM.cg (fun x => by rw [hcO]; simp [hcs]), hGP, e4⟩
theorem gvi_of : ∀ (K : List Ko) (i k : Nat) (q : Ko), K[k]? = some q → q.1.1 = 14 → (i + k, q) ∈ gvi i K := by
  intro K
  induction K with
  | nil => intro i k q h; simp at h
  | cons a K ih =>
    intro i k q h h14
    rw [gvi]
    cases k with
    | zero =>
      cases h
      rw [if_pos h14]
      simp
    | succ k =>
      have := ih (i + 1) k q h h14
      rw [show i + 1 + k = i + (k + 1) by omega] at this
      split
      · simp [this]
      · exact this
theorem bind_op {G : GG} {m : MM} {n pg tp len k : Nat} {B : Nat → Int32} {P : List Enm} {K : List Ko} {C : List Int64} {gc : Nat → Nat → Nat → Int32} {F : Nat × Nat} {S : Nat × Nat → Prop} {s s1 : BS} {q : Ko} (hN : PN n pg) (htp : tp = n + 201 ∨ tp = n + 214) (h : CV G m pg tp len B P C gc) (hb : BR m n pg s) (hF : FS m (n + 203) F) (hM : MF S F) (hG : GP B P (gvi 0 (K.take k)) gc) (hk : K[k]? = some q) (hC : C[k]? = some (encK q)) (hs : bw1 s q = some s1) (hKB : KB P.length K) (hGC : GC K P) (hKl : K.length ≤ 2000) (hen : q.1.1 = 12 → q.1.2.2.2 < P.length) : SB G m n pg tp len B P K k (C.set k (bcd B P q)) s1 (M_X0_bindOp G (n + 209) (nI k) m) (fun x => S x ∨ cO B K P k q x) := by
  have hqm := List.mem_of_getElem? hk
  obtain ⟨k1, k2, k3, k4, k5, k6⟩ := hKB q hqm
  obtain ⟨o1, o2⟩ := opa_lt hKB hqm
  obtain ⟨r1, r2, r3, r4, r5⟩ := id hb
  have hop := co_op h.2.2.2.1 (hC.trans (congrArg some (encK_a q))) o2 (by omega)
  have hN2 := hN
  unfold PN at hN2
  unfold M_X0_bindOp
  rw [nb_e r1, bd_e hop.2, nb_e r1, bd_e hop.1]
  unfold bw1 at hs
  -- ops that say nothing to the Binder
  have idle : q.1.1 ≠ 0 → q.1.1 ≠ 2 → q.1.1 ≠ 3 → q.1.1 ≤ 11 → SB G m n pg tp len B P K k (C.set k (bcd B P q)) s1 (some ((), m)) (fun x => S x ∨ cO B K P k q x) := fun z0 z2 z3 z11 => by
    rw [if_neg z0, if_neg (by omega), if_neg (by omega), if_neg (by omega), if_neg (by omega)] at hs
    have e : s1 = s := by
      by_cases w : s.1 = q.2.1 + 1 ∧ s.2.2 = decide (q.2.2.1 = 2)
      · rw [if_pos w] at hs
        cases hs
        rfl
      · rw [if_neg w] at hs
        simp at hs
    rw [e, show bcd B P q = encK q by unfold bcd; rw [if_neg z2, if_neg z3], set_same hC]
    refine ⟨m, F, gc, rfl, h, hb, hF, hM.cg (fun x => ⟨Or.inl, fun w => ?_⟩), hG.same hk (by omega), OB.rf⟩
    rcases w with w | ⟨w, -⟩ | ⟨w, -⟩ | ⟨w, -⟩
    · exact w
    · omega
    · omega
    · omega
  -- marks
  have mark : ∀ (m1 : MM), Off m m1 [n + 209] → BR m1 n pg s1 → m1.2.1 = m.2.1 → q.1.1 = 0 ∨ q.1.1 = 12 ∨ q.1.1 = 13 ∨ q.1.1 = 15 → SB G m n pg tp len B P K k (C.set k (bcd B P q)) s1 (some ((), m1)) (fun x => S x ∨ cO B K P k q x) := fun m1 o hb1 ol hq => by
    rw [show bcd B P q = encK q by unfold bcd; rw [if_neg (by omega), if_neg (by omega)], set_same hC]
    refine ⟨m1, F, gc, rfl, h.off o (by simp; omega), hb1, hF.kept o (by simp), hM.cg (fun x => ⟨Or.inl, fun w => ?_⟩), hG.same hk (by omega), ⟨fun a _ y _ => (o a (by simp; exact y)).1, fun a _ _ => by rw [ol], fun a y => (o a (by simp; exact y)).2.2⟩⟩
    rcases w with w | ⟨w, -⟩ | ⟨w, -⟩ | ⟨w, -⟩
    · exact w
    · omega
    · omega
    · omega
  rcases (show q.1.1 = 0 ∨ q.1.1 = 1 ∨ q.1.1 = 2 ∨ q.1.1 = 3 ∨ q.1.1 = 4 ∨ q.1.1 = 5 ∨ q.1.1 = 6 ∨ q.1.1 = 7 ∨ q.1.1 = 8 ∨ q.1.1 = 9 ∨ q.1.1 = 10 ∨ q.1.1 = 11 ∨ q.1.1 = 12 ∨ q.1.1 = 13 ∨ q.1.1 = 14 ∨ q.1.1 = 15 by omega) with z | z | z | z | z | z | z | z | z | z | z | z | z | z | z | z
  · rw [z, if_pos (by decide)]
    rw [if_pos z] at hs
    cases hs
    refine mark _ Off.sI ⟨r1, r2, r3, by rw [gI_sI_ne (Or.inr (by decide))]; exact r4, gI_sI_eq⟩ rfl (Or.inl z)
  · rw [z, if_neg (by decide), if_pos (by decide)]
    exact idle (by omega) (by omega) (by omega) (by omega)
  · have hp := k2 (by omega) (by omega)
    rw [show opa q = q.1.2.1 by unfold opa; rw [if_neg (by omega), if_neg (by omega), if_pos z]]
    rw [z, if_neg (by decide), if_neg (by decide), if_pos (by decide)]
    rw [if_neg (by omega), if_neg (by omega), if_neg (by omega), if_neg (by omega), if_neg (by omega)] at hs
    by_cases w : s.1 = q.2.1 + 1 ∧ s.2.2 = decide (q.2.2.1 = 2)
    · rw [if_pos w] at hs
      cases hs
      obtain ⟨m1, F1, gc1, e1, e2⟩ := bind_field hN htp h hb hF hM hG hk hC z w.1 w.2 hp.2.2.1 k1
      rw [bd_e e1]
      exact ⟨m1, F1, gc1, rfl, e2⟩
    · rw [if_neg w] at hs
      simp at hs
  · have hp := k2 (by omega) (by omega)
    rw [show opa q = q.1.2.1 * 4096 + q.1.2.2.1 by unfold opa; rw [if_neg (by omega), if_neg (by omega), if_neg (by omega), if_pos z]]
    have := hp.2.2.1
    have := hp.2.2.2.1
    rw [z, if_neg (by decide), if_neg (by decide), if_neg (by decide), if_pos (by decide), show (4096 : Int32) = nI 4096 from rfl, pk_rem (by omega) (by omega) (by omega), pk_div (by omega) (by omega) (by omega), show (q.1.2.1 * 4096 + q.1.2.2.1) / 4096 = q.1.2.1 by omega, show (q.1.2.1 * 4096 + q.1.2.2.1) % 4096 = q.1.2.2.1 by omega]
    rw [if_neg (by omega), if_neg (by omega), if_neg (by omega), if_neg (by omega), if_neg (by omega)] at hs
    have e : s1 = s := by
      by_cases w : s.1 = q.2.1 + 1 ∧ s.2.2 = decide (q.2.2.1 = 2)
      · rw [if_pos w] at hs
        cases hs
        rfl
      · rw [if_neg w] at hs
        simp at hs
    rw [e]
    obtain ⟨m1, F1, gc1, e1, e2⟩ := bind_const hN htp h hb hF hM hG hk hC z hp.2.2.1 hp.2.2.2.1
    rw [bd_e e1]
    exact ⟨m1, F1, gc1, rfl, e2⟩
  · rw [z, if_neg (by decide), if_neg (by decide), if_neg (by decide), if_neg (by decide), if_pos (by decide)]
    exact idle (by omega) (by omega) (by omega) (by omega)
  · rw [z, if_neg (by decide), if_neg (by decide), if_neg (by decide), if_neg (by decide), if_neg (by decide), if_pos (by decide)]
    exact idle (by omega) (by omega) (by omega) (by omega)
  · rw [z, if_neg (by decide), if_neg (by decide), if_neg (by decide), if_neg (by decide), if_neg (by decide), if_neg (by decide), if_pos (by decide)]
    exact idle (by omega) (by omega) (by omega) (by omega)
  · rw [z, if_neg (by decide), if_neg (by decide), if_neg (by decide), if_neg (by decide), if_neg (by decide), if_neg (by decide), if_neg (by decide), if_pos (by decide)]
    exact idle (by omega) (by omega) (by omega) (by omega)
  · rw [z, if_neg (by decide), if_neg (by decide), if_neg (by decide), if_neg (by decide), if_neg (by decide), if_neg (by decide), if_neg (by decide), if_neg (by decide), if_pos (by decide)]
    exact idle (by omega) (by omega) (by omega) (by omega)
  · rw [z, if_neg (by decide), if_neg (by decide), if_neg (by decide), if_neg (by decide), if_neg (by decide), if_neg (by decide), if_neg (by decide), if_neg (by decide), if_neg (by decide), if_pos (by decide)]
    exact idle (by omega) (by omega) (by omega) (by omega)
  · rw [z, if_neg (by decide), if_neg (by decide), if_neg (by decide), if_neg (by decide), if_neg (by decide), if_neg (by decide), if_neg (by decide), if_neg (by decide), if_neg (by decide), if_neg (by decide), if_pos (by decide)]
    exact idle (by omega) (by omega) (by omega) (by omega)
  · rw [z, if_neg (by decide), if_neg (by decide), if_neg (by decide), if_neg (by decide), if_neg (by decide), if_neg (by decide), if_neg (by decide), if_neg (by decide), if_neg (by decide), if_neg (by decide), if_neg (by decide), if_pos (by decide)]
    exact idle (by omega) (by omega) (by omega) (by omega)
  · have eo : opa q = q.1.2.2.2 := by unfold opa; rw [if_pos (by omega), if_neg (by omega)]
    rw [eo]
    rw [z, if_neg (by decide), if_neg (by decide), if_neg (by decide), if_neg (by decide), if_neg (by decide), if_neg (by decide), if_neg (by decide), if_neg (by decide), if_neg (by decide), if_neg (by decide), if_neg (by decide), if_neg (by decide), if_pos (by decide), nb_e r1, bd_e (cv_en h (hen z))]
    rw [if_neg (by omega), if_pos z] at hs
    cases hs
    refine mark _ Off.sR ⟨by rw [gR_sR, if_neg (by omega)]; exact r1, by rw [gR_sR, if_neg (by omega)]; exact r2, by rw [gR_sR, if_pos ⟨rfl, rfl⟩, if_neg (by simp)]; simp, r4, r5⟩ rfl (by omega)
  · have eo : opa q = q.1.2.2.2 := by unfold opa; rw [if_pos (by omega), if_neg (by omega)]
    rw [eo]
    rw [z, if_neg (by decide), if_neg (by decide), if_neg (by decide), if_neg (by decide), if_neg (by decide), if_neg (by decide), if_neg (by decide), if_neg (by decide), if_neg (by decide), if_neg (by decide), if_neg (by decide), if_neg (by decide), if_neg (by decide), if_pos (by decide)]
    rw [if_neg (by omega), if_neg (by omega), if_pos z] at hs
    cases hs
    exact mark _ Off.sI ⟨r1, r2, r3, gI_sI_eq, by rw [gI_sI_ne (Or.inr (by decide))]; exact r5⟩ rfl (by omega)
  · have eo : opa q = q.1.2.1 := by unfold opa; rw [if_pos (by omega), if_pos z]
    rw [eo]
    rw [z, if_neg (by decide), if_neg (by decide), if_neg (by decide), if_neg (by decide), if_neg (by decide), if_neg (by decide), if_neg (by decide), if_neg (by decide), if_neg (by decide), if_neg (by decide), if_neg (by decide), if_neg (by decide), if_neg (by decide), if_neg (by decide), if_pos (by decide)]
    rw [if_neg (by omega), if_neg (by omega), if_neg (by omega), if_pos z] at hs
    by_cases w : s.1 = q.2.1 + 1 ∧ s.2.1 = q.2.2.2
    · rw [if_pos w] at hs
      cases hs
      have hx := gvi_of K 0 k q hk z
      obtain ⟨⟨E, x1, x2⟩, -⟩ := hGC (k, q) (by rw [Nat.zero_add] at hx; exact hx)
      obtain ⟨m1, F1, gc1, e1, e2⟩ := bind_give hN htp h hb hF hM hG hk hKl z w.1 w.2 (k3 z) ⟨E, x1, x2⟩
      rw [bd_e e1, show bcd B P q = encK q by unfold bcd; rw [if_neg (by omega), if_neg (by omega)], set_same hC]
      exact ⟨m1, F1, gc1, rfl, e2⟩
    · rw [if_neg w] at hs
      simp at hs
  · rw [z, if_neg (by decide), if_neg (by decide), if_neg (by decide), if_neg (by decide), if_neg (by decide), if_neg (by decide), if_neg (by decide), if_neg (by decide), if_neg (by decide), if_neg (by decide), if_neg (by decide), if_neg (by decide), if_neg (by decide), if_neg (by decide), if_neg (by decide), if_pos (by decide)]
    rw [if_neg (by omega), if_neg (by omega), if_neg (by omega), if_neg (by omega), if_pos z] at hs
    cases hs
    exact mark _ Off.sI ⟨r1, r2, r3, by rw [gI_sI_ne (Or.inr (by decide))]; exact r4, gI_sI_eq⟩ rfl (by omega)
