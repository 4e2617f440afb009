/-! ===== L2: the reference notes faults ===== -/
def WF (m : MM) (d : Nat) (F : Nat × Nat) : Prop := gI m d 46 = nI F.1 ∧ (F.1 ≠ 0 → gI m d 47 = nI F.2) ∧ F.1 < 100 ∧ F.2 < 100000
theorem mm_wrong {G : GG} {m : MM} {d k p : Nat} {F : Nat × Nat} (h : WF m d F) (hk : k < 100) (hp : p < 100000) : ∃ m1, M_X11_wrong G d (nI k) (nI p) m = some ((), m1) ∧ OM m m1 d [46, 47] [] ∧ WF m1 d (ntF F (k, p)) := by
  obtain ⟨f1, f2, f3, f4⟩ := h
  have o : OM m (sI (sI m d 46 (nI k)) d 47 (nI p)) d [46, 47] [] := (OM.f.tr OM.f).mono (by simp) (by simp)
  have w : WF (sI (sI m d 46 (nI k)) d 47 (nI p)) d (k, p) := ⟨by rw [gI_sI_ne (Or.inr (by decide)), gI_sI_eq], fun _ => gI_sI_eq, hk, hp⟩
  unfold M_X11_wrong ntF
  rw [f1]
  by_cases z0 : F.1 = 0
  · rw [if_pos (by rw [z0]; rfl), if_pos (Or.inl z0)]
    exact ⟨_, rfl, o, w⟩
  · rw [if_neg (k_ne (a := F.1) 0 0 rfl (by omega) (by omega) z0), f2 z0]
    by_cases z1 : p < F.2
    · rw [if_pos ((nI_ltI (by omega) (by omega)).mpr z1), if_pos (Or.inr (Or.inl z1))]
      exact ⟨_, rfl, o, w⟩
    · rw [if_neg (fun z => z1 ((nI_ltI (by omega) (by omega)).mp z))]
      by_cases z2 : p = F.2
      · rw [if_pos (by rw [z2])]
        by_cases z3 : F.1 ≤ k
        · rw [if_pos ((nI_leI (by omega) (by omega)).mpr z3), if_neg (by simp only; omega)]
          exact ⟨m, rfl, OM.rf, f1, f2, f3, f4⟩
        · rw [if_neg (fun z => z3 ((nI_leI (by omega) (by omega)).mp z)), if_pos (by simp only; omega)]
          exact ⟨_, rfl, o, w⟩
      · rw [if_neg (fun z => z2 ((nI_eq (by omega) (by omega)).mp z)), if_neg (by simp only; omega)]
        exact ⟨m, rfl, OM.rf, f1, f2, f3, f4⟩
/-- a look's result: more is noted -/
def LR (m : MM) (d : Nat) (as : List Nat) (X : Option (Unit × MM)) (S : Nat × Nat → Prop) : Prop := ∃ m1 F, X = some ((), m1) ∧ OM m m1 d [46, 47] as ∧ WF m1 d F ∧ MF S F
theorem LR.cg {m : MM} {d : Nat} {as : List Nat} {X : Option (Unit × MM)} {S S' : Nat × Nat → Prop} (h : LR m d as X S) (e : ∀ q, S q ↔ S' q) : LR m d as X S' := by
  obtain ⟨m1, F, a, b, c, f⟩ := h
  exact ⟨m1, F, a, b, c, f.cg e⟩
theorem LR.tr {m m0 : MM} {d : Nat} {as as0 : List Nat} {X : Option (Unit × MM)} {S : Nat × Nat → Prop} (o : OM m0 m d [46, 47] as0) (ha : ∀ a ∈ as0, a ∈ as) (h : LR m d as X S) : LR m0 d as X S := by
  obtain ⟨m1, F, a, b, c, f⟩ := h
  exact ⟨m1, F, a, (o.mono (fun _ z => z) ha).tr1 b, c, f⟩
theorem lr_wrong {G : GG} {m : MM} {d k p : Nat} {F : Nat × Nat} {S : Nat × Nat → Prop} (h : WF m d F) (hm : MF S F) (hk : k < 100) (h0 : k ≠ 0) (hp : p < 100000) : LR m d [] (M_X11_wrong G d (nI k) (nI p) m) (fun q => S q ∨ q = (k, p)) := by
  obtain ⟨m1, e1, e2, e3⟩ := mm_wrong (G := G) h hk hp
  exact ⟨m1, _, e1, e2, e3, hm.note h0⟩
def bzI (b : Bool) : Int32 := if b = true then 1 else 0
theorem bzI_f : bzI false = 0 := rfl
theorem bzI_t : bzI true = 1 := rfl
/-- a name of the row stands before p and is the same -/
def tlf (B : Nat → Int32) (p : Nat) (l : List Nat) : Bool := l.any (fun n => decide (n < p) && nmEq B n p)
theorem tlf_iff {B : Nat → Int32} {p : Nat} {l : List Nat} : tlf B p l = true ↔ ∃ n ∈ l, n < p ∧ NE B n p := by
  unfold tlf
  rw [List.any_eq_true]
  constructor
  · intro ⟨n, a, b⟩
    rw [Bool.and_eq_true, decide_eq_true_iff, nm_iff] at b
    exact ⟨n, a, b⟩
  · intro ⟨n, a, b⟩
    exact ⟨n, a, by rw [Bool.and_eq_true, decide_eq_true_iff, nm_iff]; exact b⟩
theorem drop_get {α : Type} {l : List α} {k : Nat} {x : α} (h : l[k]? = some x) : l.drop k = x :: l.drop (k + 1) := (List.drop_eq_getElem_cons (get_lt h)).trans (by rw [(List.getElem?_eq_some_iff.mp h).2])
theorem first_c {G : GG} {m : MM} {d tt len e p : Nat} {B : Nat → Int32} {K : List Ko} {P : List Enm} {E : Enm} (h : VQ G m d tt len B K P) (hE : P[e]? = some E) (hp : p < 4096) : ∀ (fu k : Nat) (f : Bool), E.2.1.length - k < fu → k ≤ E.2.1.length → B_X11_first_156 G fu d (nI (8 * tt + e)) (nI p) (nI (nl B p)) (bzI f) (nI k) m = if (f || tlf B p ((csp E).drop k)) = true then (bd (M_X11_wrong G d 2 (nI p) m) fun _ m_3 => some ((), m_3)) else some ((), m) := by
  obtain ⟨h1, h2, h3, h4, h5, -⟩ := h
  obtain ⟨b1, b2, b3, b4, b5, b6, b7⟩ := pb_en h5 hE
  obtain ⟨q1, q2, q3, q4, q5, q6⟩ := h3.2 e E hE
  have ht := h2.2.1
  intro fu
  induction fu with
  | zero => intro k f h; omega
  | succ fu ih =>
    intro k f hf hk
    rw [B_X11_first_156, nb_e (mr_9 h1), mz_9 h1, ib_n (by omega) (by omega), nI_clamp (by omega), q3.1]
    by_cases q : E.2.1.length ≤ k
    · rw [if_pos ((nI_leI (by omega) (by omega)).mpr q), List.drop_of_length_le (by simp [csp]; omega)]
      cases f with
      | false => rw [bzI_f, if_pos rfl, if_neg (by simp [tlf])]
      | true => rw [bzI_t, if_neg (by decide), if_pos (by simp)]
    · obtain ⟨x, hx⟩ := lt_get (show k < E.2.1.length by omega)
      obtain ⟨c1, c2, -⟩ := q3.2 k x hx
      have hxp := (b6 x (List.mem_of_getElem? hx)).1
      have hd' : (csp E).drop k = x.1 :: (csp E).drop (k + 1) := drop_get (by unfold csp; rw [List.getElem?_map, hx]; rfl)
      rw [if_neg (fun z => q ((nI_leI (by omega) (by omega)).mp z)), nb_e (mr_14 h1), mz_14 h1, show (12 : Int32) = nI 12 from rfl, pk_mul, nI_add, ib_n (by omega) (by omega), nI_clamp (by omega), c1, nI_1, hd']
      have et : tlf B p (x.1 :: (csp E).drop (k + 1)) = ((decide (x.1 < p) && nmEq B x.1 p) || tlf B p ((csp E).drop (k + 1))) := rfl
      rw [et]
      cases f with
      | true => rw [bzI_t, if_neg (by decide), show (1 : Int32) = bzI true from rfl, ih (k + 1) true (by omega) (by omega)]; rfl
      | false =>
        rw [bzI_f, if_pos rfl]
        by_cases z : p ≤ x.1
        · rw [if_pos ((nI_leI (by omega) (by omega)).mpr z), show (0 : Int32) = bzI false from rfl, ih (k + 1) false (by omega) (by omega), decide_eq_false (by omega)]
          rfl
        · rw [if_neg (fun w => z ((nI_leI (by omega) (by omega)).mp w)), nb_e (mr_15 h1), mz_15 h1, ib_n (by omega) (by omega), c2, bd_e (mm_same h1 h2 hxp hp), decide_eq_true (by omega)]
          cases nmEq B x.1 p with
          | true => rw [if_pos rfl, show (1 : Int32) = bzI true from rfl, ih (k + 1) true (by omega) (by omega)]; rfl
          | false => rw [if_neg ff, show (0 : Int32) = bzI false from rfl, ih (k + 1) false (by omega) (by omega)]; rfl
theorem first_f {G : GG} {m : MM} {d tt len e p : Nat} {B : Nat → Int32} {K : List Ko} {P : List Enm} {E : Enm} (h : VQ G m d tt len B K P) (hE : P[e]? = some E) (hp : p < 4096) : ∀ (fu k : Nat) (f : Bool), (fls E.2.2).length - k < fu → k ≤ (fls E.2.2).length → B_X11_first_81 G fu d (nI (8 * tt + e)) (nI p) (nI (nl B p)) (bzI f) (nI k) m = B_X11_first_156 G FU d (nI (8 * tt + e)) (nI p) (nI (nl B p)) (bzI (f || tlf B p ((flp E).drop k))) 0 m := by
  obtain ⟨h1, h2, h3, h4, h5, -⟩ := h
  obtain ⟨b1, b2, b3, b4, b5, b6, b7⟩ := pb_en h5 hE
  obtain ⟨q1, q2, q3, q4, q5, q6⟩ := h3.2 e E hE
  have ht := h2.2.1
  intro fu
  induction fu with
  | zero => intro k f h; omega
  | succ fu ih =>
    intro k f hf hk
    rw [B_X11_first_81, nb_e (mr_11 h1), mz_11 h1, ib_n (by omega) (by omega), nI_clamp (by omega), q5.1]
    by_cases q : (fls E.2.2).length ≤ k
    · rw [if_pos ((nI_leI (by omega) (by omega)).mpr q), List.drop_of_length_le (by simp [flp]; omega)]
      cases f <;> rfl
    · obtain ⟨x, hx⟩ := lt_get (show k < (fls E.2.2).length by omega)
      obtain ⟨c1, c2, -⟩ := q5.2 k x hx
      have hx2 : x ∈ E.2.2 := (List.mem_filter.mp (List.mem_of_getElem? hx)).1
      have hxp := (b7 x hx2).2.2.1
      have hd' : (flp E).drop k = x.2.1 :: (flp E).drop (k + 1) := drop_get (by unfold flp; rw [List.getElem?_map, hx]; rfl)
      rw [if_neg (fun z => q ((nI_leI (by omega) (by omega)).mp z)), nb_e (mr_22 h1), mz_22 h1, show (6 : Int32) = nI 6 from rfl, pk_mul, nI_add, ib_n (by omega) (by omega), nI_clamp (by omega), c1, nI_1, hd']
      have et : tlf B p (x.2.1 :: (flp E).drop (k + 1)) = ((decide (x.2.1 < p) && nmEq B x.2.1 p) || tlf B p ((flp E).drop (k + 1))) := rfl
      rw [et]
      cases f with
      | true => rw [bzI_t, if_neg (by decide), show (1 : Int32) = bzI true from rfl, ih (k + 1) true (by omega) (by omega)]; rfl
      | false =>
        rw [bzI_f, if_pos rfl]
        by_cases z : p ≤ x.2.1
        · rw [if_pos ((nI_leI (by omega) (by omega)).mpr z), show (0 : Int32) = bzI false from rfl, ih (k + 1) false (by omega) (by omega), decide_eq_false (by omega)]
          rfl
        · rw [if_neg (fun w => z ((nI_leI (by omega) (by omega)).mp w)), nb_e (mr_23 h1), mz_23 h1, ib_n (by omega) (by omega), c2, bd_e (mm_same h1 h2 hxp hp), decide_eq_true (by omega)]
          cases nmEq B x.2.1 p with
          | true => rw [if_pos rfl, show (1 : Int32) = bzI true from rfl, ih (k + 1) true (by omega) (by omega)]; rfl
          | false => rw [if_neg ff, show (0 : Int32) = bzI false from rfl, ih (k + 1) false (by omega) (by omega)]; rfl
theorem first_m {G : GG} {m : MM} {d tt len e p : Nat} {B : Nat → Int32} {K : List Ko} {P : List Enm} {E : Enm} (h : VQ G m d tt len B K P) (hE : P[e]? = some E) (hp : p < 4096) : ∀ (fu k : Nat) (f : Bool), (mbs E.2.2).length - k < fu → k ≤ (mbs E.2.2).length → B_X11_first_6 G fu d (nI (8 * tt + e)) (nI p) (nI (nl B p)) (bzI f) (nI k) m = B_X11_first_81 G FU d (nI (8 * tt + e)) (nI p) (nI (nl B p)) (bzI (f || tlf B p ((mbp E).drop k))) 0 m := by
  obtain ⟨h1, h2, h3, h4, h5, -⟩ := h
  obtain ⟨b1, b2, b3, b4, b5, b6, b7⟩ := pb_en h5 hE
  obtain ⟨q1, q2, q3, q4, q5, q6⟩ := h3.2 e E hE
  have ht := h2.2.1
  intro fu
  induction fu with
  | zero => intro k f h; omega
  | succ fu ih =>
    intro k f hf hk
    rw [B_X11_first_6, nb_e (mr_10 h1), mz_10 h1, ib_n (by omega) (by omega), nI_clamp (by omega), q4.1]
    by_cases q : (mbs E.2.2).length ≤ k
    · rw [if_pos ((nI_leI (by omega) (by omega)).mpr q), List.drop_of_length_le (by simp [mbp]; omega)]
      cases f <;> rfl
    · obtain ⟨x, hx⟩ := lt_get (show k < (mbs E.2.2).length by omega)
      obtain ⟨c1, c2, -⟩ := q4.2 k x hx
      have hx2 : x ∈ E.2.2 := (List.mem_filter.mp (List.mem_of_getElem? hx)).1
      have hxp := (b7 x hx2).2.2.1
      have hd' : (mbp E).drop k = x.2.1 :: (mbp E).drop (k + 1) := drop_get (by unfold mbp; rw [List.getElem?_map, hx]; rfl)
      rw [if_neg (fun z => q ((nI_leI (by omega) (by omega)).mp z)), nb_e (mr_18 h1), mz_18 h1, show (8 : Int32) = nI 8 from rfl, pk_mul, nI_add, ib_n (by omega) (by omega), nI_clamp (by omega), c1, nI_1, hd']
      have et : tlf B p (x.2.1 :: (mbp E).drop (k + 1)) = ((decide (x.2.1 < p) && nmEq B x.2.1 p) || tlf B p ((mbp E).drop (k + 1))) := rfl
      rw [et]
      cases f with
      | true => rw [bzI_t, if_neg (by decide), show (1 : Int32) = bzI true from rfl, ih (k + 1) true (by omega) (by omega)]; rfl
      | false =>
        rw [bzI_f, if_pos rfl]
        by_cases z : p ≤ x.2.1
        · rw [if_pos ((nI_leI (by omega) (by omega)).mpr z), show (0 : Int32) = bzI false from rfl, ih (k + 1) false (by omega) (by omega), decide_eq_false (by omega)]
          rfl
        · rw [if_neg (fun w => z ((nI_leI (by omega) (by omega)).mp w)), nb_e (mr_19 h1), mz_19 h1, ib_n (by omega) (by omega), c2, bd_e (mm_same h1 h2 hxp hp), decide_eq_true (by omega)]
          cases nmEq B x.2.1 p with
          | true => rw [if_pos rfl, show (1 : Int32) = bzI true from rfl, ih (k + 1) true (by omega) (by omega)]; rfl
          | false => rw [if_neg ff, show (0 : Int32) = bzI false from rfl, ih (k + 1) false (by omega) (by omega)]; rfl
/-- a name of the enumeration that stands behind its equal -/
def tw (B : Nat → Int32) (E : Enm) (p : Nat) : Prop := ∃ n, (n ∈ mbp E ∨ n ∈ flp E ∨ n ∈ csp E) ∧ n < p ∧ NE B n p
theorem mm_first {G : GG} {m : MM} {d tt len e p : Nat} {B : Nat → Int32} {K : List Ko} {P : List Enm} {E : Enm} {F : Nat × Nat} {S : Nat × Nat → Prop} (h : VQ G m d tt len B K P) (hE : P[e]? = some E) (hp : p < 4096) (hw : WF m d F) (hm : MF S F) : LR m d [] (M_X11_first G d (nI (8 * tt + e)) (nI p) (nI (nl B p)) m) (fun q => S q ∨ (tw B E p ∧ q = (2, p))) := by
  obtain ⟨b1, b2, b3, b4, b5, b6, b7⟩ := pb_en h.2.2.2.2.1 hE
  have e1 := first_m h hE hp FU 0 false (by unfold FU; omega) (by omega)
  have e2 := first_f h hE hp FU 0 (false || tlf B p ((mbp E).drop 0)) (by unfold FU; omega) (by omega)
  have e3 := first_c h hE hp FU 0 (false || tlf B p ((mbp E).drop 0) || tlf B p ((flp E).drop 0)) (by unfold FU; omega) (by omega)
  unfold M_X11_first
  rw [show B_X11_first_6 G FU d (nI (8 * tt + e)) (nI p) (nI (nl B p)) 0 0 m = B_X11_first_6 G FU d (nI (8 * tt + e)) (nI p) (nI (nl B p)) (bzI false) (nI 0) m from rfl, e1, show (0 : Int32) = nI 0 from rfl, e2, show (0 : Int32) = nI 0 from rfl, e3]
  have hi : (false || tlf B p ((mbp E).drop 0) || tlf B p ((flp E).drop 0) || tlf B p ((csp E).drop 0)) = true ↔ tw B E p := by
    rw [List.drop_zero, List.drop_zero, List.drop_zero, Bool.or_eq_true, Bool.or_eq_true, Bool.or_eq_true, tlf_iff, tlf_iff, tlf_iff]
    constructor
    · intro z
      rcases z with ((z | ⟨n, a, b⟩) | ⟨n, a, b⟩) | ⟨n, a, b⟩
      · exact absurd z ff
      · exact ⟨n, Or.inl a, b⟩
      · exact ⟨n, Or.inr (Or.inl a), b⟩
      · exact ⟨n, Or.inr (Or.inr a), b⟩
    · intro ⟨n, a, b⟩
      rcases a with a | a | a
      · exact Or.inl (Or.inl (Or.inr ⟨n, a, b⟩))
      · exact Or.inl (Or.inr ⟨n, a, b⟩)
      · exact Or.inr ⟨n, a, b⟩
  by_cases z : tw B E p
  · rw [if_pos (hi.mpr z)]
    obtain ⟨m1, F1, a1, a2, a3, a4⟩ := lr_wrong (G := G) (k := 2) hw hm (by omega) (by omega) (show p < 100000 by omega)
    rw [show (2 : Int32) = nI 2 from rfl, bd_e a1]
    exact ⟨m1, F1, rfl, a2, a3, a4.cg (fun q => by simp [z])⟩
  · rw [if_neg (fun w => z (hi.mp w))]
    exact ⟨m, F, rfl, OM.rf, hw, hm.cg (fun q => by simp [z])⟩
