/-! ===== L2: the reference looks names up ===== -/
theorem mm_sameL {G : GG} {m : MM} {d tt len a b n : Nat} {B : Nat → Int32} (hL : LM G m d) (hT : TM m d tt len B) (ha : a < 4096) (hb : b < 4096) (h1 : n ≤ len - a) (h2 : n ≤ len - b) : ∀ (fu k : Nat), n - k < fu → k ≤ n → B_X11_isSame_16 G fu d (nI a) (nI n) (nI b) true (nI k) m = some (sm B B (a + k) (b + k) (n - k), m) := by
  obtain ⟨t1, t2, t3, t4, t5⟩ := hT
  have hl := t4.1
  intro fu
  induction fu with
  | zero => intro k h; omega
  | succ fu ih =>
    intro k hf hk
    rw [B_X11_isSame_16]
    by_cases q : n ≤ k
    · rw [if_pos ((nI_leI (by omega) (by omega)).mpr q), show n - k = 0 by omega]
      rfl
    · rw [if_neg (fun z => q ((nI_leI (by omega) (by omega)).mp z)), if_pos rfl, nb_e (mr_2 hL), mz_2 hL, t1, show (2000 : Int32) = nI 2000 from rfl, pk_mul, nI_add, nI_add, nI_add, nI_add, ib_n (by omega) (by omega), ib_n (by omega) (by omega), nI_clamp (by omega), nI_clamp (by omega), show 2000 * tt + a + k = 2000 * tt + (a + k) by omega, show 2000 * tt + b + k = 2000 * tt + (b + k) by omega, t5 _ (by omega), t5 _ (by omega), nI_1, show n - k = (n - (k + 1)) + 1 by omega, sm]
      by_cases e : B (a + k) = B (b + k)
      · rw [if_pos e, if_pos e, ih (k + 1) (by omega) (by omega)]
        rfl
      · rw [if_neg e, if_neg e]
        cases fu with
        | zero => omega
        | succ fu =>
          rw [B_X11_isSame_16]
          by_cases q2 : n ≤ k + 1
          · rw [if_pos ((nI_leI (by omega) (by omega)).mpr q2)]
          · rw [if_neg (fun z => q2 ((nI_leI (by omega) (by omega)).mp z)), if_neg ff]
theorem mm_same {G : GG} {m : MM} {d tt len a b : Nat} {B : Nat → Int32} (hL : LM G m d) (hT : TM m d tt len B) (ha : a < 4096) (hb : b < 4096) : M_X11_isSame G d (nI a) (nI (nl B a)) (nI b) (nI (nl B b)) m = some (nmEq B a b, m) := by
  have hl := hT.2.2.2.1.1
  have h1 := nl_le hT.2.2.2.1 a
  have h2 := nl_le hT.2.2.2.1 b
  unfold M_X11_isSame nmEq
  by_cases q : nl B a = nl B b
  · rw [if_pos (by rw [q]), show (0 : Int32) = nI 0 from rfl, mm_sameL hL hT ha hb h1 (by omega) FU 0 (by unfold FU; omega) (by omega), decide_eq_true q.symm, Bool.and_true]
    rfl
  · rw [if_neg (fun z => q ((nI_eq (by omega) (by omega)).mp z)), decide_eq_false (fun z => q z.symm), Bool.and_false, show FU = (FU - 1) + 1 from rfl, B_X11_isSame_16]
    by_cases q2 : nI (nl B a) ≤ 0
    · rw [if_pos q2]
    · rw [if_neg q2, if_neg ff]
/-- what the reference holds of a text that is read -/
def VQ (G : GG) (m : MM) (d tt len : Nat) (B : Nat → Int32) (K : List Ko) (P : List Enm) : Prop := LM G m d ∧ TM m d tt len B ∧ QP m d tt B K P ∧ GV m d tt B K ∧ PB P ∧ (gvi 0 K).length ≤ 500 ∧ KB P.length K ∧ GC K P
theorem VQ.kept {G : GG} {m m1 : MM} {d tt len : Nat} {B : Nat → Int32} {K : List Ko} {P : List Enm} (h : VQ G m d tt len B K P) (o : OM m m1 d [46, 47] [32, 33]) : VQ G m1 d tt len B K P := by
  obtain ⟨h1, h2, h3, h4, h5, h6, h7, h8⟩ := h
  exact ⟨h1.kept o, h2.kept o (by simp) (by simp) (by simp), h3.eq (fun i i1 i2 => o.2.2.1 _ (by omega) (by simp; omega)), h4.eq (fun i i1 i2 => o.2.2.1 _ (by omega) (by simp; omega)), h5, h6, h7, h8⟩
def mbp (E : Enm) : List Nat := (mbs E.2.2).map (fun q => q.2.1)
def flp (E : Enm) : List Nat := (fls E.2.2).map (fun q => q.2.1)
def csp (E : Enm) : List Nat := E.2.1.map (fun q => q.1)
def enp (P : List Enm) : List Nat := P.map (fun E => E.1)
theorem gd_map {α : Type} {l : List α} {f : α → Nat} {i : Nat} {q : α} (h : l[i]? = some q) : (l.map f).getD i 0 = f q := by
  rw [List.getD_eq_getElem?_getD, List.getElem?_map, h]
  rfl
theorem lt_get {α : Type} {l : List α} {i : Nat} (h : i < l.length) : ∃ q, l[i]? = some q := ⟨l[i], List.getElem?_eq_getElem h⟩
theorem pb_en {P : List Enm} {e : Nat} {E : Enm} (h : PB P) (hE : P[e]? = some E) : e < 8 ∧ E.1 < 4096 ∧ E.2.1.length ≤ 12 ∧ (mbs E.2.2).length ≤ 8 ∧ (fls E.2.2).length ≤ 6 ∧ (∀ q ∈ E.2.1, q.1 < 4096 ∧ q.2.1 < 1000000000 ∧ q.2.2 ≤ 1) ∧ ∀ q ∈ E.2.2, 5 ≤ q.1 ∧ q.1 ≤ 9 ∧ q.2.1 < 4096 ∧ q.2.2.1 < 1000000000 ∧ q.2.2.2 ≤ 2000 := by
  obtain ⟨a, b1, b2, b3, b4⟩ := h.2 E (List.mem_of_getElem? hE)
  have := get_lt hE
  have := h.1
  exact ⟨by omega, a, b1, b2, b3, b4⟩
theorem mm_memberL {G : GG} {m : MM} {d tt len e p : Nat} {B : Nat → Int32} {K : List Ko} {P : List Enm} {E : Enm} (h : VQ G m d tt len B K P) (hE : P[e]? = some E) (hp : p < 4096) : ∀ (fu k : Nat), (mbs E.2.2).length - k < fu → k ≤ (mbs E.2.2).length → B_X11_memberOf_3 G fu d (nI (8 * tt + e)) (nI p) (nI (nl B p)) (nI k) m = some (oI (fstN B p (fun i => (mbp E).getD i 0) ((mbs E.2.2).length - k) k), m) := by
  obtain ⟨h1, h2, h3, h4, h5, -⟩ := h
  obtain ⟨b1, b2, b3, b4, b5, b6, b7⟩ := pb_en h5 hE
  obtain ⟨q1, q2, q3, q4, q5, q6⟩ := h3.2 e E hE
  have ht := h2.2.1
  intro fu
  induction fu with
  | zero => intro k h; omega
  | succ fu ih =>
    intro k hf hk
    rw [B_X11_memberOf_3, nb_e (mr_10 h1), mz_10 h1, ib_n (by omega) (by omega), nI_clamp (by omega), q4.1]
    by_cases q : (mbs E.2.2).length ≤ k
    · rw [if_pos ((nI_leI (by omega) (by omega)).mpr q), show (mbs E.2.2).length - k = 0 by omega]
      rfl
    · obtain ⟨x, hx⟩ := lt_get (show k < (mbs E.2.2).length by omega)
      obtain ⟨c1, c2, -⟩ := q4.2 k x hx
      have hx2 : x ∈ E.2.2 := (List.mem_filter.mp (List.mem_of_getElem? hx)).1
      rw [if_neg (fun z => q ((nI_leI (by omega) (by omega)).mp z)), nb_e (mr_18 h1), mz_18 h1, show (8 : Int32) = nI 8 from rfl, pk_mul, nI_add, ib_n (by omega) (by omega), nb_e (mr_19 h1), mz_19 h1, ib_n (by omega) (by omega), nI_clamp (by omega), c1, c2, bd_e (mm_same h1 h2 (b7 x hx2).2.2.1 hp), nI_1, show (mbs E.2.2).length - k = ((mbs E.2.2).length - (k + 1)) + 1 by omega, fstN, show (mbp E).getD k 0 = x.2.1 from gd_map hx, nm_sy p]
      by_cases z : nmEq B x.2.1 p = true
      · rw [if_pos z, if_pos z]
        rfl
      · rw [if_neg z, if_neg z]
        exact ih (k + 1) (by omega) (by omega)
theorem mm_memberOf {G : GG} {m : MM} {d tt len e p : Nat} {B : Nat → Int32} {K : List Ko} {P : List Enm} {E : Enm} (h : VQ G m d tt len B K P) (hE : P[e]? = some E) (hp : p < 4096) : M_X11_memberOf G d (nI (8 * tt + e)) (nI p) (nI (nl B p)) m = some (oI (fn B p (mbp E)), m) := by
  have := (pb_en h.2.2.2.2.1 hE).2.2.2.1
  have := mm_memberL h hE hp FU 0 (by unfold FU; omega) (by omega)
  unfold M_X11_memberOf fn
  rw [show (0 : Int32) = nI 0 from rfl, this]
  simp [mbp]
theorem mm_fieldL {G : GG} {m : MM} {d tt len e p : Nat} {B : Nat → Int32} {K : List Ko} {P : List Enm} {E : Enm} (h : VQ G m d tt len B K P) (hE : P[e]? = some E) (hp : p < 4096) : ∀ (fu k : Nat), (fls E.2.2).length - k < fu → k ≤ (fls E.2.2).length → B_X11_fieldOf_3 G fu d (nI (8 * tt + e)) (nI p) (nI (nl B p)) (nI k) m = some (oI (fstN B p (fun i => (flp E).getD i 0) ((fls E.2.2).length - k) k), m) := by
  obtain ⟨h1, h2, h3, h4, h5, -⟩ := h
  obtain ⟨b1, b2, b3, b4, b5, b6, b7⟩ := pb_en h5 hE
  obtain ⟨q1, q2, q3, q4, q5, q6⟩ := h3.2 e E hE
  have ht := h2.2.1
  intro fu
  induction fu with
  | zero => intro k h; omega
  | succ fu ih =>
    intro k hf hk
    rw [B_X11_fieldOf_3, nb_e (mr_11 h1), mz_11 h1, ib_n (by omega) (by omega), nI_clamp (by omega), q5.1]
    by_cases q : (fls E.2.2).length ≤ k
    · rw [if_pos ((nI_leI (by omega) (by omega)).mpr q), show (fls E.2.2).length - k = 0 by omega]
      rfl
    · obtain ⟨x, hx⟩ := lt_get (show k < (fls E.2.2).length by omega)
      obtain ⟨c1, c2, -⟩ := q5.2 k x hx
      have hx2 : x ∈ E.2.2 := (List.mem_filter.mp (List.mem_of_getElem? hx)).1
      rw [if_neg (fun z => q ((nI_leI (by omega) (by omega)).mp z)), nb_e (mr_22 h1), mz_22 h1, show (6 : Int32) = nI 6 from rfl, pk_mul, nI_add, ib_n (by omega) (by omega), nb_e (mr_23 h1), mz_23 h1, ib_n (by omega) (by omega), nI_clamp (by omega), c1, c2, bd_e (mm_same h1 h2 (b7 x hx2).2.2.1 hp), nI_1, show (fls E.2.2).length - k = ((fls E.2.2).length - (k + 1)) + 1 by omega, fstN, show (flp E).getD k 0 = x.2.1 from gd_map hx, nm_sy p]
      by_cases z : nmEq B x.2.1 p = true
      · rw [if_pos z, if_pos z]
        rfl
      · rw [if_neg z, if_neg z]
        exact ih (k + 1) (by omega) (by omega)
theorem mm_fieldOf {G : GG} {m : MM} {d tt len e p : Nat} {B : Nat → Int32} {K : List Ko} {P : List Enm} {E : Enm} (h : VQ G m d tt len B K P) (hE : P[e]? = some E) (hp : p < 4096) : M_X11_fieldOf G d (nI (8 * tt + e)) (nI p) (nI (nl B p)) m = some (oI (fn B p (flp E)), m) := by
  have := (pb_en h.2.2.2.2.1 hE).2.2.2.2.1
  have := mm_fieldL h hE hp FU 0 (by unfold FU; omega) (by omega)
  unfold M_X11_fieldOf fn
  rw [show (0 : Int32) = nI 0 from rfl, this]
  simp [flp]
theorem mm_constL {G : GG} {m : MM} {d tt len e p : Nat} {B : Nat → Int32} {K : List Ko} {P : List Enm} {E : Enm} (h : VQ G m d tt len B K P) (hE : P[e]? = some E) (hp : p < 4096) : ∀ (fu k : Nat), E.2.1.length - k < fu → k ≤ E.2.1.length → B_X11_constOf_3 G fu d (nI (8 * tt + e)) (nI p) (nI (nl B p)) (nI k) m = some (oI (fstN B p (fun i => (csp E).getD i 0) (E.2.1.length - k) k), m) := by
  obtain ⟨h1, h2, h3, h4, h5, -⟩ := h
  obtain ⟨b1, b2, b3, b4, b5, b6, b7⟩ := pb_en h5 hE
  obtain ⟨q1, q2, q3, q4, q5, q6⟩ := h3.2 e E hE
  have ht := h2.2.1
  intro fu
  induction fu with
  | zero => intro k h; omega
  | succ fu ih =>
    intro k hf hk
    rw [B_X11_constOf_3, nb_e (mr_9 h1), mz_9 h1, ib_n (by omega) (by omega), nI_clamp (by omega), q3.1]
    by_cases q : E.2.1.length ≤ k
    · rw [if_pos ((nI_leI (by omega) (by omega)).mpr q), show E.2.1.length - k = 0 by omega]
      rfl
    · obtain ⟨x, hx⟩ := lt_get (show k < E.2.1.length by omega)
      obtain ⟨c1, c2, -⟩ := q3.2 k x hx
      rw [if_neg (fun z => q ((nI_leI (by omega) (by omega)).mp z)), nb_e (mr_14 h1), mz_14 h1, show (12 : Int32) = nI 12 from rfl, pk_mul, nI_add, ib_n (by omega) (by omega), nb_e (mr_15 h1), mz_15 h1, ib_n (by omega) (by omega), nI_clamp (by omega), c1, c2, bd_e (mm_same h1 h2 (b6 x (List.mem_of_getElem? hx)).1 hp), nI_1, show E.2.1.length - k = (E.2.1.length - (k + 1)) + 1 by omega, fstN, show (csp E).getD k 0 = x.1 from gd_map hx, nm_sy p]
      by_cases z : nmEq B x.1 p = true
      · rw [if_pos z, if_pos z]
        rfl
      · rw [if_neg z, if_neg z]
        exact ih (k + 1) (by omega) (by omega)
theorem mm_constOf {G : GG} {m : MM} {d tt len e p : Nat} {B : Nat → Int32} {K : List Ko} {P : List Enm} {E : Enm} (h : VQ G m d tt len B K P) (hE : P[e]? = some E) (hp : p < 4096) : M_X11_constOf G d (nI (8 * tt + e)) (nI p) (nI (nl B p)) m = some (oI (fn B p (csp E)), m) := by
  have := (pb_en h.2.2.2.2.1 hE).2.2.1
  have := mm_constL h hE hp FU 0 (by unfold FU; omega) (by omega)
  unfold M_X11_constOf fn
  rw [show (0 : Int32) = nI 0 from rfl, this]
  simp [csp]
def oA (b : Nat) (x : Option Nat) : Int32 := match x with
  | none => -1
  | some k => nI (b + k)
theorem mm_enumL {G : GG} {m : MM} {d tt len p : Nat} {B : Nat → Int32} {K : List Ko} {P : List Enm} (h : VQ G m d tt len B K P) (hp : p < 4096) : ∀ (fu k : Nat), P.length - k < fu → k ≤ P.length → B_X11_enumOf_8 G fu d (nI p) (nI (nl B p)) (nI (8 * tt + k)) m = some (oA (8 * tt) (fstN B p (fun i => (enp P).getD i 0) (P.length - k) k), m) := by
  obtain ⟨h1, h2, h3, h4, h5, -⟩ := h
  have ht := h2.2.1
  have hP := h5.1
  intro fu
  induction fu with
  | zero => intro k h; omega
  | succ fu ih =>
    intro k hf hk
    rw [B_X11_enumOf_8, nb_e (mr_6 h1), mz_6 h1, h2.1, ib_n (by omega) (by omega), nI_clamp (by omega), h3.1, show (8 : Int32) = nI 8 from rfl, pk_mul, nI_add]
    by_cases q : P.length ≤ k
    · rw [if_pos ((nI_leI (by omega) (by omega)).mpr (by omega)), show P.length - k = 0 by omega]
      rfl
    · obtain ⟨x, hx⟩ := lt_get (show k < P.length by omega)
      obtain ⟨c1, c2, -⟩ := h3.2 k x hx
      rw [if_neg (fun z => q (by have := (nI_leI (by omega) (by omega)).mp z; omega)), nb_e (mr_7 h1), mz_7 h1, ib_n (by omega) (by omega), nb_e (mr_8 h1), mz_8 h1, ib_n (by omega) (by omega), nI_clamp (by omega), c1, c2, bd_e (mm_same h1 h2 (pb_en h5 hx).2.1 hp), nI_1, show P.length - k = (P.length - (k + 1)) + 1 by omega, fstN, show (enp P).getD k 0 = x.1 from gd_map hx, nm_sy p]
      by_cases z : nmEq B x.1 p = true
      · rw [if_pos z, if_pos z]
        rfl
      · rw [if_neg z, if_neg z]
        exact ih (k + 1) (by omega) (by omega)
theorem mm_enumOf {G : GG} {m : MM} {d tt len p : Nat} {B : Nat → Int32} {K : List Ko} {P : List Enm} (h : VQ G m d tt len B K P) (hp : p < 4096) : M_X11_enumOf G d (nI p) (nI (nl B p)) m = some (oA (8 * tt) (fn B p (enp P)), m) := by
  have := h.2.2.2.2.1.1
  have := mm_enumL h hp FU 0 (by unfold FU; omega) (by omega)
  unfold M_X11_enumOf fn
  rw [h.2.1.1, show (8 : Int32) = nI 8 from rfl, pk_mul, show 8 * tt = 8 * tt + 0 from rfl, this]
  simp [enp]
/-- the first give of a constant by its name -/
def gvF (B : Nat → Int32) (en c p : Nat) : List (Nat × Ko) → Nat → Option Nat
  | [], _ => none
  | x :: l, g => if x.2.2.1 = en ∧ x.2.2.2.2 = c ∧ nmEq B x.2.1.2.1 p = true then some g else gvF B en c p l (g + 1)
theorem gvF_some {B : Nat → Int32} {en c p : Nat} : ∀ (l : List (Nat × Ko)) (k g : Nat), gvF B en c p l k = some g → ∃ i x, g = k + i ∧ l[i]? = some x ∧ x.2.2.1 = en ∧ x.2.2.2.2 = c ∧ NE B x.2.1.2.1 p ∧ ∀ j y, j < i → l[j]? = some y → ¬ (y.2.2.1 = en ∧ y.2.2.2.2 = c ∧ NE B y.2.1.2.1 p) := by
  intro l
  induction l with
  | nil => intro k g h; simp [gvF] at h
  | cons x l ih =>
    intro k g h
    rw [gvF] at h
    by_cases z : x.2.2.1 = en ∧ x.2.2.2.2 = c ∧ nmEq B x.2.1.2.1 p = true
    · rw [if_pos z] at h
      cases h
      exact ⟨0, x, rfl, rfl, z.1, z.2.1, nm_iff.mp z.2.2, fun j y hj => by omega⟩
    · rw [if_neg z] at h
      obtain ⟨i, y, a, b, c1, c2, c3, c4⟩ := ih (k + 1) g h
      refine ⟨i + 1, y, by omega, b, c1, c2, c3, fun j y' hj hy => ?_⟩
      cases j with
      | zero =>
        cases hy
        exact fun w => z ⟨w.1, w.2.1, nm_iff.mpr w.2.2⟩
      | succ j => exact c4 j y' (by omega) hy
theorem gvF_none {B : Nat → Int32} {en c p : Nat} : ∀ (l : List (Nat × Ko)) (k : Nat), gvF B en c p l k = none ↔ ∀ x ∈ l, ¬ (x.2.2.1 = en ∧ x.2.2.2.2 = c ∧ NE B x.2.1.2.1 p) := by
  intro l
  induction l with
  | nil => intro k; simp [gvF]
  | cons x l ih =>
    intro k
    rw [gvF]
    by_cases z : x.2.2.1 = en ∧ x.2.2.2.2 = c ∧ nmEq B x.2.1.2.1 p = true
    · rw [if_pos z]
      constructor
      · intro w; simp at w
      · intro w
        exact absurd ⟨z.1, z.2.1, nm_iff.mp z.2.2⟩ (w x (by simp))
    · rw [if_neg z, ih]
      constructor
      · intro w y hy
        rcases List.mem_cons.mp hy with e | e
        · rw [e]
          exact fun u => z ⟨u.1, u.2.1, nm_iff.mpr u.2.2⟩
        · exact w y e
      · intro w y hy
        exact w y (by simp [hy])
theorem gvF_lt {B : Nat → Int32} {en c p g : Nat} {l : List (Nat × Ko)} (h : gvF B en c p l 0 = some g) : g < l.length := by
  obtain ⟨i, x, a, b, -⟩ := gvF_some l 0 g h
  have := get_lt b
  omega
theorem mm_giveL {G : GG} {m : MM} {d tt len en c p : Nat} {B : Nat → Int32} {K : List Ko} {P : List Enm} (h : VQ G m d tt len B K P) (hp : p < 4096) (hen : en < 8) (hc : c < 12) : ∀ (fu k : Nat), (gvi 0 K).length - k < fu → k ≤ (gvi 0 K).length → B_X11_giveBy_10 G fu d (nI (12 * (8 * tt + en) + c)) (nI p) (nI (nl B p)) (nI (520 * tt + k)) m = some (oA (520 * tt) (gvF B en c p ((gvi 0 K).drop k) k), m) := by
  obtain ⟨h1, h2, h3, h4, h5, h6, h7, h8⟩ := h
  have ht := h2.2.1
  intro fu
  induction fu with
  | zero => intro k h; omega
  | succ fu ih =>
    intro k hf hk
    rw [B_X11_giveBy_10, nb_e (mr_27 h1), mz_27 h1, h2.1, ib_n (by omega) (by omega), nI_clamp (by omega), h4.1, show (520 : Int32) = nI 520 from rfl, pk_mul, nI_add]
    by_cases q : (gvi 0 K).length ≤ k
    · rw [if_pos ((nI_leI (by omega) (by omega)).mpr (by omega)), List.drop_of_length_le q]
      rfl
    · obtain ⟨x, hx⟩ := lt_get (show k < (gvi 0 K).length by omega)
      obtain ⟨c1, c2, c3, -⟩ := h4.2 k x hx
      have hxm := List.mem_of_getElem? hx
      obtain ⟨⟨E, e1, e2⟩, -⟩ := h8 x hxm
      have hE := pb_en h5 e1
      have hpx : x.2.1.2.1 < 4096 := by
        have := gvi_mem K 0 x hxm
        exact (h7 x.2 this.1).2.2.1 this.2
      rw [if_neg (fun z => q (by have := (nI_leI (by omega) (by omega)).mp z; omega)), nb_e (mr_28 h1), mz_28 h1, ib_n (by omega) (by omega), nI_clamp (by omega), c1, nI_1, show (gvi 0 K).drop k = x :: (gvi 0 K).drop (k + 1) from (List.drop_eq_getElem_cons (get_lt hx)).trans (by rw [(List.getElem?_eq_some_iff.mp hx).2]), gvF]
      have eqi : nI (12 * (8 * tt + x.2.2.1) + x.2.2.2.2) = nI (12 * (8 * tt + en) + c) ↔ x.2.2.1 = en ∧ x.2.2.2.2 = c := by
        rw [nI_eq (by omega) (by omega)]
        omega
      by_cases z : x.2.2.1 = en ∧ x.2.2.2.2 = c
      · rw [if_pos (eqi.mpr z), nb_e (mr_29 h1), mz_29 h1, ib_n (by omega) (by omega), nb_e (mr_30 h1), mz_30 h1, ib_n (by omega) (by omega), c2, c3, bd_e (mm_same h1 h2 hpx hp)]
        by_cases w : nmEq B x.2.1.2.1 p = true
        · rw [if_pos w, if_pos ⟨z.1, z.2, w⟩]
          rfl
        · rw [if_neg w, if_neg (fun u => w u.2.2)]
          exact ih (k + 1) (by omega) (by omega)
      · rw [if_neg (fun u => z (eqi.mp u)), if_neg (fun u => z ⟨u.1, u.2.1⟩)]
        exact ih (k + 1) (by omega) (by omega)
theorem mm_giveBy {G : GG} {m : MM} {d tt len en c p : Nat} {B : Nat → Int32} {K : List Ko} {P : List Enm} (h : VQ G m d tt len B K P) (hp : p < 4096) (hen : en < 8) (hc : c < 12) : M_X11_giveBy G d (nI (12 * (8 * tt + en) + c)) (nI p) (nI (nl B p)) m = some (oA (520 * tt) (gvF B en c p (gvi 0 K) 0), m) := by
  have h6 := h.2.2.2.2.2.1
  have := mm_giveL h hp hen hc FU 0 (by unfold FU; omega) (by omega)
  unfold M_X11_giveBy
  rw [h.2.1.1, show (520 : Int32) = nI 520 from rfl, pk_mul, show 520 * tt = 520 * tt + 0 from rfl, this]
  simp
