/-! ===== L2: class and reference find the same fault ===== -/
/-- all faults of a text, by the class -/
def NC (B : Nat → Int32) (gc : Nat → Nat → Nat → Int32) (K : List Ko) (P : List Enm) (x : Nat × Nat) : Prop := (bdK K x ∨ ∃ E ∈ P, x ∈ mkD E.2.2) ∨ cN B gc K P 0 x
theorem gvi_idx : ∀ (K : List Ko) (i g : Nat) (x : Nat × Ko), (gvi i K)[g]? = some x → ∃ j, x.1 = i + j ∧ K[j]? = some x.2 ∧ x.2.1.1 = 14 ∧ gvi i (K.take j) = (gvi i K).take g := by
  intro K
  induction K with
  | nil => intro i g x h; simp [gvi] at h
  | cons a K ih =>
    intro i g x h
    rw [gvi] at h
    by_cases h14 : a.1.1 = 14
    · rw [if_pos h14] at h
      cases g with
      | zero =>
        rw [List.getElem?_cons_zero] at h
        cases h
        exact ⟨0, by simp, by simp, h14, by simp [gvi]⟩
      | succ g =>
        rw [List.getElem?_cons_succ] at h
        obtain ⟨j, e1, e2, e3, e4⟩ := ih (i + 1) g x h
        refine ⟨j + 1, by omega, by rw [List.getElem?_cons_succ]; exact e2, e3, ?_⟩
        rw [List.take_succ_cons, gvi, if_pos h14, gvi, if_pos h14, List.take_succ_cons, e4]
    · rw [if_neg h14] at h
      obtain ⟨j, e1, e2, e3, e4⟩ := ih (i + 1) g x h
      refine ⟨j + 1, by omega, by rw [List.getElem?_cons_succ]; exact e2, e3, ?_⟩
      rw [List.take_succ_cons, gvi, if_neg h14, gvi, if_neg h14, e4]
theorem gvi_at {K : List Ko} {j : Nat} {q : Ko} (h : K[j]? = some q) (h14 : q.1.1 = 14) : (gvi 0 K)[(gvi 0 (K.take j)).length]? = some (j, q) ∧ ∀ (i : Nat) (y : Nat × Ko), (gvi 0 (K.take j))[i]? = some y → (gvi 0 K)[i]? = some y := by
  have hj := get_lt h
  have eK : K = K.take j ++ q :: K.drop (j + 1) := by rw [← drop_get h, List.take_append_drop]
  have e : gvi 0 K = gvi 0 (K.take j) ++ (j, q) :: gvi (j + 1) (K.drop (j + 1)) := by
    conv => lhs; rw [eK]
    rw [gvi_app, List.length_take, Nat.min_eq_left (by omega), Nat.zero_add, gvi, if_pos h14]
  rw [e]
  exact ⟨by rw [List.getElem?_append_right (Nat.le_refl _), Nat.sub_self]; rfl, fun i y hy => by rw [List.getElem?_append_left (get_lt hy)]; exact hy⟩
theorem mem_nm {cs : List Con} {ms : List Mem} {e : Nat} {p : Nat} (hB : EB cs ms) : p ∈ nmL cs ms ↔ (p ∈ mbp (e, cs, ms) ∨ p ∈ flp (e, cs, ms) ∨ p ∈ csp (e, cs, ms)) := by
  unfold nmL nmM mbp flp csp mbs fls
  simp only [List.mem_append, List.mem_map, List.mem_filter, Bool.or_eq_true, Bool.not_eq_true', decide_eq_true_eq, decide_eq_false_iff_not]
  constructor
  · rintro (w | ⟨x, ⟨h1, h2⟩, h3⟩)
    · exact Or.inr (Or.inr w)
    · obtain ⟨c1, c2, -⟩ := hB.2.2.2.2 x h1
      by_cases z : x.1 = 5 ∨ x.1 = 6
      · exact Or.inl ⟨x, ⟨h1, z⟩, h3⟩
      · exact Or.inr (Or.inl ⟨x, ⟨h1, by omega⟩, h3⟩)
  · rintro (⟨x, ⟨h1, h2⟩, h3⟩ | ⟨x, ⟨h1, h2⟩, h3⟩ | w)
    · exact Or.inr ⟨x, ⟨h1, by omega⟩, h3⟩
    · exact Or.inr ⟨x, ⟨h1, by omega⟩, h3⟩
    · exact Or.inl w
theorem pw_lt {l : List Nat} (h : l.Pairwise (· < ·)) {i j a b : Nat} (hi : l[i]? = some a) (hj : l[j]? = some b) : i < j ↔ a < b := by
  have hil := get_lt hi
  have hjl := get_lt hj
  have ea := (List.getElem?_eq_some_iff.mp hi).2
  have eb := (List.getElem?_eq_some_iff.mp hj).2
  rw [List.pairwise_iff_getElem] at h
  constructor
  · intro w
    rw [← ea, ← eb]
    exact h i j hil hjl w
  · intro w
    rcases Nat.lt_or_ge i j with z | z
    · exact z
    · rcases Nat.lt_or_ge j i with z' | z'
      · have := h j i hjl hil z'
        omega
      · have : i = j := by omega
        subst this
        omega
theorem take_mem {l : List Nat} {i p : Nat} (h : p ∈ l.take i) : ∃ j, j < i ∧ l[j]? = some p := by
  obtain ⟨j, hj⟩ := List.mem_iff_getElem?.mp h
  have := get_lt hj
  rw [List.length_take] at this
  rw [List.getElem?_take] at hj
  by_cases w : j < i
  · rw [if_pos w] at hj
    exact ⟨j, w, hj⟩
  · rw [if_neg w] at hj
    simp at hj
theorem mem_take {l : List Nat} {i j p : Nat} (h : l[j]? = some p) (hj : j < i) : p ∈ l.take i := by
  apply List.mem_iff_getElem?.mpr
  exact ⟨j, by rw [List.getElem?_take, if_pos hj]; exact h⟩
theorem fn_ne {B : Nat → Int32} {p : Nat} {l : List Nat} : fn B p l ≠ none ↔ ∃ q ∈ l, NE B p q := by
  constructor
  · intro h
    apply Classical.byContradiction
    intro w
    exact h (fn_none.mpr (fun q hq z => w ⟨q, hq, z⟩))
  · rintro ⟨q, hq, z⟩ h
    exact fn_none.mp h q hq z
theorem enm_eta (E : Enm) : (E.1, E.2.1, E.2.2) = E := rfl
theorem GP.nge {B : Nat → Int32} {P : List Enm} {K : List Ko} {gc : Nat → Nat → Nat → Int32} (hG : GP B P (gvi 0 K) gc) {e c : Nat} {E : Enm} (hE : P[e]? = some E) {y : Mem} {i : Nat} (hy : (mbs E.2.2)[i]? = some y) : ngc B gc e E c y ↔ ng B K e c y := by
  unfold ngc ng
  rw [gvF_none]
  obtain ⟨j, hj, -⟩ := fn_self (B := B) (l := mbp E) (i := i) (p := y.2.1) (by unfold mbp; rw [List.getElem?_map, hy]; rfl)
  refine and_congr_right (fun y5 => ?_)
  have hh : ∀ x, (x.2.2.1 = e ∧ x.2.2.2.2 = c ∧ NE B x.2.1.2.1 y.2.1) ↔ hit B P e c j x := fun x => by
    constructor
    · intro ⟨a, b, z⟩
      exact ⟨a, b, E, hE, by rw [fn_cg z]; exact hj⟩
    · intro ⟨a, b, E', z1, z2⟩
      rw [hE] at z1
      cases z1
      obtain ⟨p, u1, u2, -⟩ := fn_some.mp z2
      obtain ⟨p', v1, v2, -⟩ := fn_some.mp hj
      rw [u1] at v1
      cases v1
      exact ⟨a, b, u2.tr v2.sy⟩
  constructor
  · rintro ⟨j', hj', hgc⟩
    rw [hj] at hj'
    cases hj'
    rcases hG e c j with ⟨-, w⟩ | ⟨g, x, u1, u2, u3, u4, u5⟩
    · exact fun x hx z => w x hx ((hh x).mp z)
    · exfalso
      rw [hgc] at u4
      exact nI_pos (n := x.1 + 1) (by omega) (by rw [← u4]; decide)
  · intro w
    refine ⟨j, hj, ?_⟩
    rcases hG e c j with ⟨u, -⟩ | ⟨g, x, u1, u2, u3, u4, u5⟩
    · exact u
    · exact absurd ((hh x).mpr u2) (w x (List.mem_of_getElem? u1))
theorem mem_aK {K : List Ko} {q : Ko} (h : q ∈ K) (h1 : 1 ≤ q.1.1) (h2 : q.1.1 ≤ 11) : q ∈ aK K := List.mem_filter.mpr ⟨h, by unfold isA; rw [Bool.and_eq_true, decide_eq_true_iff, decide_eq_true_iff]; exact ⟨h1, h2⟩⟩
theorem bad_code {so : Nat} {o : Op} (h : badB so o = true) : o.1 = 4 ∨ o.1 = 5 ∨ o.1 = 6 := by
  unfold badB at h
  simp only [Bool.or_eq_true, Bool.and_eq_true, decide_eq_true_eq] at h
  omega
theorem d1_faults {B : Nat → Int32} {gc : Nat → Nat → Nat → Int32} {K : List Ko} {P : List Enm} {r : List Tok} (hP : PB P) (hF : FI P K r) (hG : GP B P (gvi 0 K) gc) : ∀ q, NC B gc K P q → ∃ q', NR B K P q' ∧ lx q' q := by
  intro q hq
  obtain ⟨f1, f2, f3, f4, f5⟩ := hF
  rcases hq with (⟨o, h1, h2, h3⟩ | ⟨E, hE, h1⟩) | ⟨j, o, -, hj, ho⟩ | ⟨i, p, -, h1, h2, h3⟩ | ⟨e, E, -, hE, w⟩
  · have := bad_code h2
    exact ⟨q, Or.inr (Or.inr ⟨o, mem_aK h1 (by omega) (by omega), Or.inr (Or.inr ⟨h2, h3⟩)⟩), lx.rf q⟩
  · obtain ⟨e, he⟩ := List.mem_iff_getElem?.mp hE
    unfold mkD at h1
    obtain ⟨x, hx, rfl⟩ := List.mem_map.mp h1
    have hm := (f4 e E he).2.1
    unfold mpl at hm
    cases hk : mks E.2.2 with
    | nil => rw [hk] at hx; simp at hx
    | cons a l =>
      cases l with
      | nil => rw [hk] at hx; simp at hx
      | cons b l =>
        refine ⟨(2, b.2.1), Or.inl ⟨e, E, he, Or.inr (Or.inl ⟨a, b, l, hk, rfl⟩)⟩, ?_⟩
        rw [hk] at hx hm
        rw [List.tail_cons] at hx
        rcases List.mem_cons.mp hx with w | w
        · rw [w]
          exact lx.rf _
        · rw [List.map_cons, List.map_cons, List.pairwise_cons, List.pairwise_cons] at hm
          exact Or.inl (hm.2.1 x.2.1 (List.mem_map.mpr ⟨x, w, rfl⟩))
  · rcases ho with ⟨h14, E, hE, w⟩ | w
    · obtain ⟨g1, g2⟩ := gvi_at hj h14
      rcases w with ⟨w1, w2⟩ | ⟨i, w1, ⟨y, w2, w3⟩, w4⟩
      · exact ⟨q, Or.inr (Or.inl ⟨_, (j, o), g1, Or.inr ⟨E, hE, w1, w2⟩⟩), lx.rf q⟩
      · obtain ⟨iy, hiy⟩ := List.mem_iff_getElem?.mp w2
        obtain ⟨c1, c2, E', c3, c4⟩ := w3
        rw [hE] at c3
        cases c3
        obtain ⟨p, u1, u2, -⟩ := fn_some.mp c4
        obtain ⟨p', v1, v2, -⟩ := fn_some.mp w1
        rw [u1] at v1
        cases v1
        exact ⟨q, Or.inr (Or.inl ⟨_, (j, o), g1, Or.inl ⟨iy, y, get_lt hiy, g2 iy y hiy, c1, c2, u2.tr v2.sy, w4⟩⟩), lx.rf q⟩
    · have hm := List.mem_of_getElem? hj
      rcases w with ⟨w1, w2⟩ | ⟨w1, w2, w3⟩
      · exact ⟨q, Or.inr (Or.inr ⟨o, mem_aK hm (by omega) (by omega), Or.inl ⟨w1, w2⟩⟩), lx.rf q⟩
      · exact ⟨q, Or.inr (Or.inr ⟨o, mem_aK hm (by omega) (by omega), Or.inr (Or.inl ⟨w1, w2, w3⟩)⟩), lx.rf q⟩
  · have h1' := h1
    unfold enp at h1'
    rw [List.getElem?_map, Option.map_eq_some_iff] at h1'
    obtain ⟨E, hE, rfl⟩ := h1'
    obtain ⟨x, hx, hx2⟩ := fn_ne.mp h2
    obtain ⟨j, hj, hx3⟩ := take_mem hx
    unfold enp at hx3
    rw [List.getElem?_map, Option.map_eq_some_iff] at hx3
    obtain ⟨X, hX, rfl⟩ := hx3
    exact ⟨q, Or.inl ⟨i, E, hE, Or.inl ⟨j, X, hj, hX, hx2, h3⟩⟩, lx.rf q⟩
  · have hEB := (hP.2 E (List.mem_of_getElem? hE)).2
    rcases w with ⟨i, p, -, h1, h2, h3⟩ | ⟨i, y, c, x, h1, h2, h3, h4⟩
    · obtain ⟨x, hx, hx2⟩ := fn_ne.mp h2
      obtain ⟨j, hj, hx3⟩ := take_mem hx
      have hlt := (pw_lt (f4 e E hE).1 hx3 h1).mp hj
      exact ⟨q, Or.inl ⟨e, E, hE, Or.inr (Or.inr (Or.inl ⟨p, (mem_nm (e := E.1) hEB).mp (List.mem_of_getElem? h1), ⟨x, (mem_nm (e := E.1) hEB).mp (List.mem_of_getElem? hx3), hlt, hx2.sy⟩, h3⟩))⟩, lx.rf q⟩
    · exact ⟨q, Or.inl ⟨e, E, hE, Or.inr (Or.inr (Or.inr ⟨c, x, h2, y, List.mem_of_getElem? h1, (hG.nge hE h1).mp h3, h4⟩))⟩, lx.rf q⟩
theorem d2_faults {B : Nat → Int32} {gc : Nat → Nat → Nat → Int32} {K : List Ko} {P : List Enm} {r : List Tok} (hP : PB P) (hF : FI P K r) (hG : GP B P (gvi 0 K) gc) : ∀ q, NR B K P q → ∃ q', NC B gc K P q' ∧ lx q' q := by
  intro q hq
  obtain ⟨f1, f2, f3, f4, f5⟩ := hF
  rcases hq with ⟨e, E, hE, w⟩ | ⟨g, x, hg, w⟩ | ⟨o, ho, w⟩
  · have hEB := (hP.2 E (List.mem_of_getElem? hE)).2
    rcases w with ⟨j, X, h1, h2, h3, h4⟩ | ⟨a, b, l, h1, h2⟩ | ⟨p, h1, ⟨x, h2, h3, h4⟩, h5⟩ | ⟨c, x, h1, y, h2, h3, h4⟩
    · refine ⟨q, Or.inr (Or.inr (Or.inl ⟨e, E.1, Nat.zero_le _, by unfold enp; rw [List.getElem?_map, hE]; rfl, fn_ne.mpr ⟨X.1, mem_take (j := j) (by unfold enp; rw [List.getElem?_map, h2]; rfl) h1, h3⟩, h4⟩)), lx.rf q⟩
    · refine ⟨q, Or.inl (Or.inr ⟨E, List.mem_of_getElem? hE, ?_⟩), lx.rf q⟩
      unfold mkD
      rw [h1, h2]
      simp
    · have m1 := (mem_nm (e := E.1) hEB).mpr h1
      have m2 := (mem_nm (e := E.1) hEB).mpr h2
      obtain ⟨i, hi⟩ := List.mem_iff_getElem?.mp m1
      obtain ⟨j, hj⟩ := List.mem_iff_getElem?.mp m2
      have hlt := (pw_lt (f4 e E hE).1 hj hi).mpr h3
      exact ⟨q, Or.inr (Or.inr (Or.inr ⟨e, E, Nat.zero_le _, hE, Or.inl ⟨i, p, Nat.zero_le _, hi, fn_ne.mpr ⟨x, mem_take hj hlt, h4.sy⟩, h5⟩⟩)), lx.rf q⟩
    · obtain ⟨i, hi⟩ := List.mem_iff_getElem?.mp h2
      exact ⟨q, Or.inr (Or.inr (Or.inr ⟨e, E, Nat.zero_le _, hE, Or.inr ⟨i, y, c, x, hi, h1, (hG.nge hE hi).mpr h3, h4⟩⟩)), lx.rf q⟩
  · obtain ⟨j, e1, e2, e3, e4⟩ := gvi_idx K 0 g x hg
    have hx1 : x.1 = j := by omega
    obtain ⟨⟨E, hE, hEc⟩, -⟩ := f3 x (List.mem_of_getElem? hg)
    rcases w with ⟨jy, y, h1, h2, h3, h4, h5, h6⟩ | ⟨E', h1, h2, h3⟩
    · cases hf : fn B x.2.1.2.1 (mbp E) with
      | none =>
        obtain ⟨jk, k1, k2, k3, k4⟩ := gvi_idx K 0 jy y h2
        have hf2 : fn B y.2.1.2.1 (mbp E) = none := by rw [fn_cg h5]; exact hf
        refine ⟨(3, y.2.1.2.1), Or.inr (Or.inl ⟨jk, y.2, Nat.zero_le _, k2, Or.inl ⟨k3, E, by rw [h3]; exact hE, Or.inl ⟨hf2, rfl⟩⟩⟩), Or.inl ?_⟩
        rw [h6]
        have := f1.1
        unfold gpl at this
        exact (pw_lt this (by rw [List.getElem?_map, h2]; rfl) (by rw [List.getElem?_map, hg]; rfl)).mp h1
      | some i =>
        refine ⟨q, Or.inr (Or.inl ⟨j, x.2, Nat.zero_le _, e2, Or.inl ⟨e3, E, hE, Or.inr ⟨i, hf, ⟨y, ?_, h3, h4, E, by exact hE, by rw [fn_cg h5]; exact hf⟩, h6⟩⟩⟩), lx.rf q⟩
        rw [e4]
        exact List.mem_iff_getElem?.mpr ⟨jy, by rw [List.getElem?_take, if_pos h1]; exact h2⟩
    · rw [hE] at h1
      cases h1
      exact ⟨q, Or.inr (Or.inl ⟨j, x.2, Nat.zero_le _, e2, Or.inl ⟨e3, E, hE, Or.inl ⟨h2, h3⟩⟩⟩), lx.rf q⟩
  · have hm := (List.mem_filter.mp ho).1
    obtain ⟨j, hj⟩ := List.mem_iff_getElem?.mp hm
    rcases w with w | w | ⟨w1, w2⟩
    · exact ⟨q, Or.inr (Or.inl ⟨j, o, Nat.zero_le _, hj, Or.inr (Or.inl w)⟩), lx.rf q⟩
    · exact ⟨q, Or.inr (Or.inl ⟨j, o, Nat.zero_le _, hj, Or.inr (Or.inr w)⟩), lx.rf q⟩
    · exact ⟨q, Or.inl (Or.inl ⟨o, hm, w1, w2⟩), lx.rf q⟩
theorem eq_faults {B : Nat → Int32} {gc : Nat → Nat → Nat → Int32} {K : List Ko} {P : List Enm} {r : List Tok} {F F' : Nat × Nat} (hP : PB P) (hF : FI P K r) (hG : GP B P (gvi 0 K) gc) (h1 : MF (NC B gc K P) F) (h2 : MF (NR B K P) F') : F.1 = F'.1 ∧ (F.1 ≠ 0 → F = F') := h1.eq h2 (d1_faults hP hF hG) (d2_faults hP hF hG)
