/-! ===== L2: the reference looks at gives and acts ===== -/
def cst (B : Nat → Int32) (P : List Enm) (p s : Nat) : Option (Nat × Nat) := match fn B p (enp P) with
  | none => none
  | some e => match P[e]? with
    | none => none
    | some E => match fn B s (csp E) with
      | none => none
      | some c => some (e, c)
/-- what an act has wrong -/
def rA (B : Nat → Int32) (P : List Enm) (q : Ko) (n : Nat × Nat) : Prop := (q.1.1 = 2 ∧ ∃ E, P[q.2.1]? = some E ∧ ((fn B q.1.2.1 (flp E) = none ∧ n = (6, q.1.2.1)) ∨ ∃ f y, fn B q.1.2.1 (flp E) = some f ∧ q.2.2.1 = 2 ∧ (fls E.2.2)[f]? = some y ∧ y.1 = 7 ∧ n = (5, q.1.2.1))) ∨ (q.1.1 = 3 ∧ cst B P q.1.2.1 q.1.2.2.1 = none ∧ n = (6, q.1.2.1)) ∨ (badB q.2.2.1 q.1 = true ∧ n = (6, q.1.2.1))
/-- what a give has wrong -/
def rG (B : Nat → Int32) (K : List Ko) (P : List Enm) (g : Nat) (x : Nat × Ko) (n : Nat × Nat) : Prop := (∃ j y, j < g ∧ (gvi 0 K)[j]? = some y ∧ y.2.2.1 = x.2.2.1 ∧ y.2.2.2.2 = x.2.2.2.2 ∧ NE B y.2.1.2.1 x.2.1.2.1 ∧ n = (2, x.2.1.2.1)) ∨ (∃ E, P[x.2.2.1]? = some E ∧ fn B x.2.1.2.1 (mbp E) = none ∧ n = (3, x.2.1.2.1))
/-- an act with what its names mean -/
def AB (m : MM) (d tt : Nat) (B : Nat → Int32) (P : List Enm) (j : Nat) (q : Ko) : Prop := (q.1.1 = 2 → ∃ E, P[q.2.1]? = some E ∧ gI m (d + 32) (2100 * tt + j) = oI (fn B q.1.2.1 (flp E))) ∧ (q.1.1 = 3 → ∀ e c, cst B P q.1.2.1 q.1.2.2.1 = some (e, c) → gI m (d + 32) (2100 * tt + j) = nI (8 * tt + e) ∧ gI m (d + 33) (2100 * tt + j) = nI c)
theorem acd_k {x : Nat} (k : Nat) (v : Int32) (ev : v = nI k) (hx : x ≤ 11) (hx1 : 1 ≤ x) (hk : k ≤ 6) : nI (acd x) = v ↔ x = k := by
  rw [ev]
  have : acd x ≤ 11 := by unfold acd; (repeat' split) <;> omega
  rw [nI_eq (by omega) (by omega)]
  unfold acd
  (repeat' split) <;> omega
theorem whr_k {so : Nat} (h : so ≤ 2) : (nI (whr so) = 1 ↔ so = 2) ∧ (nI (whr so) = 2 ↔ so = 1) ∧ (0 < nI (whr so) ↔ so ≠ 0) := by
  rcases (show so = 0 ∨ so = 1 ∨ so = 2 by omega) with q | q | q <;> subst q <;> decide
theorem oI_ge {x : Option Nat} (h : ∀ i, x = some i → i < 100000) : 0 ≤ oI x ↔ x ≠ none := by
  cases x with
  | none => exact ⟨fun z => absurd z (by decide), fun z => absurd rfl z⟩
  | some i => exact ⟨fun _ => by simp, fun _ => nI_pos' (by have := h i rfl; omega)⟩
theorem look_act {G : GG} {m : MM} {d tt len k : Nat} {B : Nat → Int32} {K : List Ko} {P : List Enm} {q : Ko} {F : Nat × Nat} {S : Nat × Nat → Prop} (hV : VQ G m d tt len B K P) (hA : AQ m d tt B k q) (hq : opB q.1) (he : q.2.1 < P.length) (hso : q.2.2.1 ≤ 2) (hk : k < 2100) (hw : WF m d F) (hm : MF S F) : ∃ m1 F1, M_X11_lookAtAct G d (nI (2100 * tt + k)) m = some ((), m1) ∧ OM m m1 d [46, 47] [32, 33] ∧ WF m1 d F1 ∧ MF (fun n => S n ∨ rA B P q n) F1 ∧ (∀ j, j ≠ 2100 * tt + k → gI m1 (d + 32) j = gI m (d + 32) j ∧ gI m1 (d + 33) j = gI m (d + 33) j) ∧ (q.1.1 = 1 → gI m1 (d + 32) (2100 * tt + k) = gI m (d + 32) (2100 * tt + k)) ∧ AB m1 d tt B P k q := by
  have hV0 := hV
  obtain ⟨h1, h2, h3, h4, h5, -⟩ := hV
  obtain ⟨a1, a2, a3, a4, a5, a6, a7⟩ := hA
  obtain ⟨o1, o2, o3, o4, o5⟩ := hq
  have ht := h2.2.1
  obtain ⟨E, hE⟩ := lt_get he
  obtain ⟨b1, b2, b3, b4, b5, b6, b7⟩ := pb_en h5 hE
  obtain ⟨q1, q2, q3, q4, q5, q6⟩ := h3.2 _ E hE
  obtain ⟨w1, w2, w3⟩ := whr_k hso
  unfold M_X11_lookAtAct
  rw [nb_e (mr_51 h1), mz_51 h1, ib_n (by omega) (by omega), nb_e (mr_50 h1), mz_50 h1, ib_n (by omega) (by omega), nb_e (mr_34 h1), mz_34 h1, ib_n (by omega) (by omega), nI_clamp (by omega), a1, a6, a7]
  have nochange : ∀ {F1 : Nat × Nat} {m1 : MM} {S1 : Nat × Nat → Prop} (X : Option (Unit × MM)), X = some ((), m1) → OM m m1 d [46, 47] [] → WF m1 d F1 → MF S1 F1 → (∀ n, S1 n ↔ (S n ∨ rA B P q n)) → q.1.1 ≠ 2 → q.1.1 ≠ 3 → ∃ m1 F1, X = some ((), m1) ∧ OM m m1 d [46, 47] [32, 33] ∧ WF m1 d F1 ∧ MF (fun n => S n ∨ rA B P q n) F1 ∧ (∀ j, j ≠ 2100 * tt + k → gI m1 (d + 32) j = gI m (d + 32) j ∧ gI m1 (d + 33) j = gI m (d + 33) j) ∧ (q.1.1 = 1 → gI m1 (d + 32) (2100 * tt + k) = gI m (d + 32) (2100 * tt + k)) ∧ AB m1 d tt B P k q := by
    intro F1 m1 S1 X e1 e2 e3 e4 e5 e6 e7
    exact ⟨m1, F1, e1, e2.mono (fun _ z => z) (by simp), e3, e4.cg e5, fun j _ => ⟨e2.A (by decide) (by simp) j, e2.A (by decide) (by simp) j⟩, fun _ => e2.A (by decide) (by simp) _, fun z => absurd z e6, fun z => absurd z e7⟩
  by_cases z2 : q.1.1 = 2
  · rw [if_pos ((acd_k 2 2 rfl o2 o1 (by omega)).mpr z2), nb_e (mr_37 h1), mz_37 h1, ib_n (by omega) (by omega), nb_e (mr_38 h1), mz_38 h1, ib_n (by omega) (by omega), a3 (by omega) (by omega), a4 (Or.inl z2), bd_e (mm_fieldOf hV0 hE o3)]
    have nb4 : badB q.2.2.1 q.1 = false := by unfold badB; simp [z2]
    -- a fault or none, then the field's place is put down
    have fin : ∀ {mz : MM} {F1 : Nat × Nat} {S1 : Nat × Nat → Prop}, OM m mz d [46, 47] [] → WF mz d F1 → MF S1 F1 → (∀ n, S1 n ↔ (S n ∨ rA B P q n)) → ∃ m1 F1, (nb (gR mz d 35) fun b_38 => ib (nI (2100 * tt + k)) (G.2.2 b_38) <| some ((), sI mz b_38 (2100 * tt + k) (oI (fn B q.1.2.1 (flp E))))) = some ((), m1) ∧ OM m m1 d [46, 47] [32, 33] ∧ WF m1 d F1 ∧ MF (fun n => S n ∨ rA B P q n) F1 ∧ (∀ j, j ≠ 2100 * tt + k → gI m1 (d + 32) j = gI m (d + 32) j ∧ gI m1 (d + 33) j = gI m (d + 33) j) ∧ (q.1.1 = 1 → gI m1 (d + 32) (2100 * tt + k) = gI m (d + 32) (2100 * tt + k)) ∧ AB m1 d tt B P k q := by
      intro mz F1 S1 e2 e3 e4 e5
      have hz : LM G mz d := h1.kept e2
      rw [nb_e (mr_35 hz), mz_35 hz, ib_n (by omega) (by omega)]
      refine ⟨_, F1, rfl, (e2.tr (OM.a (by decide))).mono (by simp) (by simp), ?_, e4.cg e5, fun j hj => ?_, fun z => by omega, fun _ => ⟨E, hE, gI_sI_eq⟩, fun z => by omega⟩
      · obtain ⟨f1, f2, f3, f4⟩ := e3
        exact ⟨by rw [gI_sI_ne (Or.inl (by omega))]; exact f1, fun z => by rw [gI_sI_ne (Or.inl (by omega))]; exact f2 z, f3, f4⟩
      · rw [gI_sI_ne (Or.inr hj), gI_sI_ne (Or.inl (by omega))]
        exact ⟨e2.A (by decide) (by simp) j, e2.A (by decide) (by simp) j⟩
    have hlt : ∀ i, fn B q.1.2.1 (flp E) = some i → i < 100000 := fun i hi => by
      have := fn_lt hi
      simp only [flp, List.length_map] at this
      omega
    cases hf : fn B q.1.2.1 (flp E) with
    | none =>
      rw [hf] at fin
      rw [if_neg (show ¬ 0 ≤ oI none by decide), nb_e (mr_37 h1), mz_37 h1, ib_n (by omega) (by omega), a3 (by omega) (by omega)]
      obtain ⟨m1, F1, c1, c2, c3, c4⟩ := lr_wrong (G := G) (k := 6) hw hm (by omega) (by omega) (show q.1.2.1 < 100000 by omega)
      rw [show (6 : Int32) = nI 6 from rfl, bd_e c1]
      refine fin c2 c3 c4 (fun n => ?_)
      constructor
      · intro w
        rcases w with w | w
        · exact Or.inl w
        · exact Or.inr (Or.inl ⟨z2, E, hE, Or.inl ⟨hf, w⟩⟩)
      · intro w
        rcases w with w | ⟨-, E', hE', w⟩ | ⟨w, -⟩ | ⟨w, -⟩
        · exact Or.inl w
        · rw [hE] at hE'
          cases hE'
          rcases w with ⟨-, w⟩ | ⟨f, y, w, -⟩
          · exact Or.inr w
          · rw [hf] at w
            simp at w
        · omega
        · rw [nb4] at w
          exact absurd w ff
    | some f =>
      rw [hf] at fin
      have hfl := fn_lt hf
      simp only [flp, List.length_map] at hfl
      obtain ⟨y, hy⟩ := lt_get hfl
      obtain ⟨d1, d2, d3, d4⟩ := q5.2 f y hy
      have hyt : y.1 = 7 ∨ y.1 = 8 := by
        have := (List.mem_filter.mp (List.mem_of_getElem? hy)).2
        rw [Bool.or_eq_true, decide_eq_true_iff, decide_eq_true_iff] at this
        exact this
      have hy2 : y ∈ E.2.2 := (List.mem_filter.mp (List.mem_of_getElem? hy)).1
      rw [if_pos (show 0 ≤ oI (some f) from nI_pos' (by omega))]
      have hrA : ∀ n, rA B P q n ↔ (q.2.2.1 = 2 ∧ y.1 = 7 ∧ n = (5, q.1.2.1)) := fun n => by
        constructor
        · intro w
          rcases w with ⟨-, E', hE', w⟩ | ⟨w, -⟩ | ⟨w, -⟩
          · rw [hE] at hE'
            cases hE'
            rcases w with ⟨w, -⟩ | ⟨f', y', w, s2, hy', w7, wn⟩
            · rw [hf] at w
              simp at w
            · rw [hf] at w
              cases w
              rw [hy] at hy'
              cases hy'
              exact ⟨s2, w7, wn⟩
          · omega
          · rw [nb4] at w
            exact absurd w ff
        · intro ⟨s2, w7, wn⟩
          exact Or.inl ⟨z2, E, hE, Or.inr ⟨f, y, hf, s2, hy, w7, wn⟩⟩
      by_cases s2 : q.2.2.1 = 2
      · rw [if_pos (w1.mpr s2), nb_e (mr_25 h1), mz_25 h1, show (6 : Int32) = nI 6 from rfl, pk_mul, show oI (some f) = nI f from rfl, nI_add, ib_n (by omega) (by omega), nI_clamp (by omega)]
        by_cases y7 : y.1 = 7
        · obtain ⟨s, g1, g2, g3⟩ := d4 y7
          have hct : ct K y.2.2.2 ≤ y.2.2.2 := by
            unfold ct aK
            exact Nat.le_trans (List.length_filter_le _ _) (by rw [List.length_take]; omega)
          have := (b7 y hy2).2.2.2.2
          rw [g2, if_neg (nI_pos (by omega)), nb_e (mr_37 h1), mz_37 h1, ib_n (by omega) (by omega), a3 (by omega) (by omega)]
          obtain ⟨m1, F1, c1, c2, c3, c4⟩ := lr_wrong (G := G) (k := 5) hw hm (by omega) (by omega) (show q.1.2.1 < 100000 by omega)
          rw [show (5 : Int32) = nI 5 from rfl, bd_e c1]
          exact fin c2 c3 c4 (fun n => by rw [hrA]; simp [s2, y7])
        · rw [(d3 (by omega)).1, if_pos (by decide)]
          exact fin OM.rf hw hm (fun n => by rw [hrA]; simp [y7])
      · rw [if_neg (fun z => s2 (w1.mp z))]
        exact fin OM.rf hw hm (fun n => by rw [hrA]; simp [s2])
  rw [if_neg (fun z => z2 ((acd_k 2 2 rfl o2 o1 (by omega)).mp z)), ib_n (by omega) (by omega)]
  by_cases z3 : q.1.1 = 3
  · have nb4 : badB q.2.2.1 q.1 = false := by unfold badB; simp [z3]
    rw [if_pos ((acd_k 3 3 rfl o2 o1 (by omega)).mpr z3), nb_e (mr_37 h1), mz_37 h1, ib_n (by omega) (by omega), nb_e (mr_38 h1), mz_38 h1, ib_n (by omega) (by omega), a3 (by omega) (by omega), a4 (Or.inr z3), bd_e (mm_enumOf hV0 o3)]
    have hrA : ∀ n, rA B P q n ↔ (cst B P q.1.2.1 q.1.2.2.1 = none ∧ n = (6, q.1.2.1)) := fun n => by
      constructor
      · intro w
        rcases w with ⟨w, -⟩ | ⟨-, w⟩ | ⟨w, -⟩
        · omega
        · exact w
        · rw [nb4] at w
          exact absurd w ff
      · intro w
        exact Or.inr (Or.inl ⟨z3, w⟩)
    have f179 : ∀ {mz : MM} {F1 : Nat × Nat} {S1 : Nat × Nat → Prop} {x4 x5 : Int32}, OM m mz d [46, 47] [] → WF mz d F1 → MF S1 F1 → (∀ n, S1 n ↔ (S n ∨ rA B P q n)) → (∀ e c, cst B P q.1.2.1 q.1.2.2.1 = some (e, c) → x4 = nI (8 * tt + e) ∧ x5 = nI c) → ∃ m1 F1, B_X11_lookAtAct_179 G d (nI (2100 * tt + k)) x4 x5 mz = some ((), m1) ∧ OM m m1 d [46, 47] [32, 33] ∧ WF m1 d F1 ∧ MF (fun n => S n ∨ rA B P q n) F1 ∧ (∀ j, j ≠ 2100 * tt + k → gI m1 (d + 32) j = gI m (d + 32) j ∧ gI m1 (d + 33) j = gI m (d + 33) j) ∧ (q.1.1 = 1 → gI m1 (d + 32) (2100 * tt + k) = gI m (d + 32) (2100 * tt + k)) ∧ AB m1 d tt B P k q := by
      intro mz F1 S1 x4 x5 e2 e3 e4 e5 e6
      have hz : LM G mz d := h1.kept e2
      unfold B_X11_lookAtAct_179
      simp only [gR_sI]
      rw [nb_e (mr_35 hz), mz_35 hz, ib_n (by omega) (by omega), nb_e (mr_36 hz), mz_36 hz, ib_n (by omega) (by omega), nI_clamp (by omega)]
      refine ⟨_, F1, rfl, ((e2.tr (OM.a (by decide))).tr (OM.a (by decide))).mono (by simp) (by simp), ?_, e4.cg e5, fun j hj => ?_, fun z => by omega, fun z => absurd z z2, fun _ e c hc => ?_⟩
      · obtain ⟨f1, f2, f3, f4⟩ := e3
        exact ⟨by rw [gI_sI_ne (Or.inl (by omega)), gI_sI_ne (Or.inl (by omega))]; exact f1, fun z => by rw [gI_sI_ne (Or.inl (by omega)), gI_sI_ne (Or.inl (by omega))]; exact f2 z, f3, f4⟩
      · rw [gI_sI_ne (Or.inl (by omega)), gI_sI_ne (Or.inr hj), gI_sI_ne (Or.inr hj), gI_sI_ne (Or.inl (by omega))]
        exact ⟨e2.A (by decide) (by simp) j, e2.A (by decide) (by simp) j⟩
      · obtain ⟨r1, r2⟩ := e6 e c hc
        rw [gI_sI_ne (Or.inl (by omega)), gI_sI_eq, gI_sI_eq]
        exact ⟨r1, r2⟩
    have f160 : ∀ {x4 : Int32}, cst B P q.1.2.1 q.1.2.2.1 = none → ∃ m1 F1, B_X11_lookAtAct_160 G d (nI (2100 * tt + k)) x4 (-1) m = some ((), m1) ∧ OM m m1 d [46, 47] [32, 33] ∧ WF m1 d F1 ∧ MF (fun n => S n ∨ rA B P q n) F1 ∧ (∀ j, j ≠ 2100 * tt + k → gI m1 (d + 32) j = gI m (d + 32) j ∧ gI m1 (d + 33) j = gI m (d + 33) j) ∧ (q.1.1 = 1 → gI m1 (d + 32) (2100 * tt + k) = gI m (d + 32) (2100 * tt + k)) ∧ AB m1 d tt B P k q := by
      intro x4 hn
      unfold B_X11_lookAtAct_160
      rw [if_neg (by decide), nb_e (mr_37 h1), mz_37 h1, ib_n (by omega) (by omega), nI_clamp (by omega), a3 (by omega) (by omega)]
      obtain ⟨m1, F1, c1, c2, c3, c4⟩ := lr_wrong (G := G) (k := 6) hw hm (by omega) (by omega) (show q.1.2.1 < 100000 by omega)
      rw [show (6 : Int32) = nI 6 from rfl, bd_e c1]
      exact f179 c2 c3 c4 (fun n => by rw [hrA]; simp [hn]) (fun e c z => by rw [hn] at z; simp at z)
    cases hf : fn B q.1.2.1 (enp P) with
    | none =>
      rw [show oA (8 * tt) none = (-1 : Int32) from rfl, if_neg (by decide)]
      exact f160 (by unfold cst; rw [hf])
    | some e =>
      have hel := fn_lt hf
      simp only [enp, List.length_map] at hel
      have := h5.1
      obtain ⟨E2, hE2⟩ := lt_get hel
      have a5' := a5 z3
      rw [show oA (8 * tt) (some e) = nI (8 * tt + e) from rfl, if_pos (nI_pos' (by omega)), nb_e (mr_39 h1), mz_39 h1, ib_n (by omega) (by omega), nb_e (mr_40 h1), mz_40 h1, ib_n (by omega) (by omega), a5'.1, a5'.2, bd_e (mm_constOf hV0 hE2 o4)]
      cases hc : fn B q.1.2.2.1 (csp E2) with
      | none => exact f160 (by unfold cst; rw [hf]; dsimp only; rw [hE2]; dsimp only; rw [hc])
      | some c =>
        have hcl := fn_lt hc
        simp only [csp, List.length_map] at hcl
        have hb2 := (pb_en h5 hE2).2.2.1
        have hcs : cst B P q.1.2.1 q.1.2.2.1 = some (e, c) := by unfold cst; rw [hf]; dsimp only; rw [hE2]; dsimp only; rw [hc]
        unfold B_X11_lookAtAct_160
        rw [if_pos (show 0 ≤ oI (some c) from nI_pos' (by omega))]
        exact f179 OM.rf hw hm (fun n => by rw [hrA]; simp [hcs]) (fun e' c' z => by rw [hcs] at z; cases z; exact ⟨rfl, rfl⟩)
  rw [if_neg (fun z => z3 ((acd_k 3 3 rfl o2 o1 (by omega)).mp z)), ib_n (by omega) (by omega)]
  have hrA : ∀ n, rA B P q n ↔ (badB q.2.2.1 q.1 = true ∧ n = (6, q.1.2.1)) := fun n => by
    constructor
    · intro w
      rcases w with ⟨w, -⟩ | ⟨w, -⟩ | w
      · omega
      · omega
      · exact w
    · intro w
      exact Or.inr (Or.inr w)
  obtain ⟨mW, FW, c1, c2, c3, c4⟩ := lr_wrong (G := G) (k := 6) hw hm (by omega) (by omega) (show q.1.2.1 < 100000 by omega)
  have bad : badB q.2.2.1 q.1 = true → ∀ n, (S n ∨ n = (6, q.1.2.1)) ↔ (S n ∨ rA B P q n) := fun hb n => by rw [hrA]; simp [hb]
  have good : badB q.2.2.1 q.1 = false → ∀ n, S n ↔ (S n ∨ rA B P q n) := fun hb n => by rw [hrA]; simp [hb]
  have f227 : q.1.1 ≠ 4 ∨ q.2.2.1 = 2 → q.1.1 ≠ 5 ∨ q.2.2.1 = 0 → ∃ m1 F1, B_X11_lookAtAct_227 G d (nI (2100 * tt + k)) (nI (whr q.2.2.1)) m = some ((), m1) ∧ OM m m1 d [46, 47] [32, 33] ∧ WF m1 d F1 ∧ MF (fun n => S n ∨ rA B P q n) F1 ∧ (∀ j, j ≠ 2100 * tt + k → gI m1 (d + 32) j = gI m (d + 32) j ∧ gI m1 (d + 33) j = gI m (d + 33) j) ∧ (q.1.1 = 1 → gI m1 (d + 32) (2100 * tt + k) = gI m (d + 32) (2100 * tt + k)) ∧ AB m1 d tt B P k q := by
    intro n4 n5
    unfold B_X11_lookAtAct_227
    rw [nb_e (mr_34 h1), mz_34 h1, ib_n (by omega) (by omega), nI_clamp (by omega), a1]
    by_cases z6 : q.1.1 = 6
    · rw [if_pos ((acd_k 6 6 rfl o2 o1 (by omega)).mpr z6)]
      by_cases s1 : q.2.2.1 = 1
      · rw [if_pos (w2.mpr s1), nb_e (mr_37 h1), mz_37 h1, ib_n (by omega) (by omega), a3 (by omega) (by omega), show (6 : Int32) = nI 6 from rfl, bd_e c1]
        exact nochange _ rfl c2 c3 c4 (bad (by unfold badB; simp [z6, s1])) z2 z3
      · rw [if_neg (fun z => s1 (w2.mp z))]
        exact nochange _ rfl OM.rf hw hm (good (by unfold badB; simp [z6, s1])) z2 z3
    · rw [if_neg (fun z => z6 ((acd_k 6 6 rfl o2 o1 (by omega)).mp z))]
      refine nochange _ rfl OM.rf hw hm (good ?_) z2 z3
      unfold badB
      rcases n4 with n4 | n4 <;> rcases n5 with n5 | n5 <;> simp [n4, n5, z6] <;> omega
  have f213 : q.1.1 ≠ 4 ∨ q.2.2.1 = 2 → ∃ m1 F1, B_X11_lookAtAct_213 G d (nI (2100 * tt + k)) (nI (whr q.2.2.1)) m = some ((), m1) ∧ OM m m1 d [46, 47] [32, 33] ∧ WF m1 d F1 ∧ MF (fun n => S n ∨ rA B P q n) F1 ∧ (∀ j, j ≠ 2100 * tt + k → gI m1 (d + 32) j = gI m (d + 32) j ∧ gI m1 (d + 33) j = gI m (d + 33) j) ∧ (q.1.1 = 1 → gI m1 (d + 32) (2100 * tt + k) = gI m (d + 32) (2100 * tt + k)) ∧ AB m1 d tt B P k q := by
    intro n4
    unfold B_X11_lookAtAct_213
    rw [nb_e (mr_34 h1), mz_34 h1, ib_n (by omega) (by omega), nI_clamp (by omega), a1]
    by_cases z5 : q.1.1 = 5
    · rw [if_pos ((acd_k 5 5 rfl o2 o1 (by omega)).mpr z5)]
      by_cases s0 : q.2.2.1 = 0
      · rw [if_neg (fun z => w3.mp z s0)]
        exact f227 n4 (Or.inr s0)
      · rw [if_pos (w3.mpr s0), nb_e (mr_37 h1), mz_37 h1, ib_n (by omega) (by omega), a3 (by omega) (by omega), show (6 : Int32) = nI 6 from rfl, bd_e c1]
        exact nochange _ rfl c2 c3 c4 (bad (by unfold badB; simp [z5, s0])) z2 z3
    · rw [if_neg (fun z => z5 ((acd_k 5 5 rfl o2 o1 (by omega)).mp z))]
      exact f227 n4 (Or.inl z5)
  by_cases z4 : q.1.1 = 4
  · rw [if_pos ((acd_k 4 4 rfl o2 o1 (by omega)).mpr z4)]
    by_cases s2 : q.2.2.1 = 2
    · rw [if_pos (w1.mpr s2)]
      exact f213 (Or.inr s2)
    · rw [if_neg (fun z => s2 (w1.mp z)), nb_e (mr_37 h1), mz_37 h1, ib_n (by omega) (by omega), a3 (by omega) (by omega), show (6 : Int32) = nI 6 from rfl, bd_e c1]
      exact nochange _ rfl c2 c3 c4 (bad (by unfold badB; simp [z4, s2])) z2 z3
  · rw [if_neg (fun z => z4 ((acd_k 4 4 rfl o2 o1 (by omega)).mp z))]
    exact f213 (Or.inl z4)
