/-! ===== L2: the reference reads constants ===== -/
theorem EO.rf {m : MM} {d ge : Nat} : EO m m d ge := ⟨rfl, fun _ _ _ _ => rfl, fun _ _ _ _ _ => rfl, fun _ _ _ _ _ => rfl, fun _ _ _ _ _ => rfl⟩
theorem EO.tr {m m1 m2 : MM} {d ge : Nat} (h : EO m m1 d ge) (h2 : EO m1 m2 d ge) : EO m m2 d ge := by
  obtain ⟨a1, a2, a3, a4, a5⟩ := h
  obtain ⟨b1, b2, b3, b4, b5⟩ := h2
  exact ⟨b1.trans a1, fun o j x y => (b2 o j x y).trans (a2 o j x y), fun o j x y z => (b3 o j x y z).trans (a3 o j x y z), fun o j x y z => (b4 o j x y z).trans (a4 o j x y z), fun o j x y z => (b5 o j x y z).trans (a5 o j x y z)⟩
theorem EO.w {m : MM} {d ge o k : Nat} {v : Int32} (h : ((4 ≤ o ∧ o ≤ 10 ∨ o = 38) ∧ k = ge) ∨ (11 ≤ o ∧ o ≤ 14 ∧ 12 * ge ≤ k ∧ k < 12 * ge + 12) ∨ (15 ≤ o ∧ o ≤ 18 ∧ 8 * ge ≤ k ∧ k < 8 * ge + 8) ∨ (19 ≤ o ∧ o ≤ 23 ∧ 6 * ge ≤ k ∧ k < 6 * ge + 6) ∨ (24 ≤ o ∧ o ≠ 38)) : EO m (sI m (d + o) k v) d ge := by
  have g : ∀ o' j, (o' ≠ o ∨ j ≠ k) → gI (sI m (d + o) k v) (d + o') j = gI m (d + o') j := fun o' j hne => gI_sI_ne (hne.elim (fun z => Or.inl (by omega)) (fun z => Or.inr z))
  refine ⟨(sI_off (by omega)).1, fun o' j x y => g o' j (by omega), fun o' j x y z => g o' j (by omega), fun o' j x y z => g o' j (by omega), fun o' j x y z => g o' j (by omega)⟩
theorem OE.eo {m m1 : MM} {d tt ge : Nat} (h : OE m m1 d tt) : EO m m1 d ge := ⟨h.2.2.1 (d + 3) (by omega), fun o j x _ => h.arr (by omega) (by omega) j, fun o j x y _ => h.arr (by omega) (by omega) j, fun o j x y _ => h.arr (by omega) (by omega) j, fun o j x y _ => h.arr (by omega) (by omega) j⟩
theorem RT.oe {G : GG} {m m1 : MM} {d tt len : Nat} {B : Nat → Int32} {K : List Ko} {Q : List Enm} {E : Enm} {l l1 : List Tok} (h : RT G m d tt len B K Q E l) (o : OE m m1 d tt) (h1 : RE G m1 d tt len B Q.length (aK K) [] l1 none) (hl : l1.length ≤ l.length) : RT G m1 d tt len B K Q E l1 := ⟨h1, h.2.1.oe o, h.2.2.1.oe o, h.2.2.2.1, by have := h.2.2.2.2.1; omega, by have := h.2.2.2.2.2; omega⟩
theorem RT.next {G : GG} {m : MM} {d tt len : Nat} {B : Nat → Int32} {K : List Ko} {Q : List Enm} {E : Enm} {l : List Tok} (h : RT G m d tt len B K Q E l) (hh : hd l ≠ 130) : ∃ m1, M_X11_next G d m = some ((), m1) ∧ RT G m1 d tt len B K Q E l.tail ∧ OE m m1 d tt ∧ (aK K).length + l.tail.length ≤ 2000 ∧ l.tail.length + 1 = l.length := by
  obtain ⟨m1, e1, e2, e3, e4⟩ := h.1.next hh
  have oe : OE m m1 d tt := e3.oh (by simp)
  rw [List.length_nil] at e4
  obtain ⟨c, rs, p1, z1, -⟩ := h.1.2.2.2.1
  exact ⟨m1, e1, h.oe oe e2 (by simp), oe, by omega, by rw [z1]; simp⟩
theorem RT.need {G : GG} {m : MM} {d tt len w : Nat} {B : Nat → Int32} {K : List Ko} {Q : List Enm} {E : Enm} {l : List Tok} (h : RT G m d tt len B K Q E l) (hw : w < 128) : (hd l = w → ∃ m1, M_X11_need G d (nI w) m = some ((), m1) ∧ RT G m1 d tt len B K Q E l.tail ∧ OE m m1 d tt ∧ (aK K).length + l.tail.length ≤ 2000 ∧ l.tail.length + 1 = l.length) ∧ (hd l ≠ w → ∃ m1, M_X11_need G d (nI w) m = some ((), m1) ∧ RE G m1 d tt len B Q.length (aK K) [] l (some (plc l)) ∧ OE m m1 d tt) := by
  obtain ⟨a, b⟩ := h.1.need hw
  refine ⟨fun z => ?_, b⟩
  obtain ⟨m1, e1, e2, e3, e4, e5⟩ := a z
  rw [List.length_nil] at e4
  exact ⟨m1, e1, h.oe e3 e2 (by omega), e3, by omega, e5⟩
/-- a write into the last enumeration's cells -/
theorem RT.set {G : GG} {m m1 : MM} {d tt len : Nat} {B : Nat → Int32} {K : List Ko} {Q : List Enm} {E E1 : Enm} {l : List Tok} (h : RT G m d tt len B K Q E l) (h1 : RE G m1 d tt len B Q.length (aK K) [] l none) (o : EO m m1 d (8 * tt + Q.length)) (hg : ∀ i, 24 ≤ i → i ≤ 29 → m1.1 (d + i) = m.1 (d + i)) (hq : QE m1 d tt B K Q.length E1) (hB : E1.1 < 4096 ∧ EB E1.2.1 E1.2.2) : RT G m1 d tt len B K Q E1 l := by
  obtain ⟨a1, a2, a3, a4, a5⟩ := h
  refine ⟨h1, a2.last o a4 hq, a3.eq hg, ⟨?_, fun E' hE' => ?_⟩, a5⟩
  · have := a4.1
    rw [List.length_append] at this ⊢
    exact this
  · rw [List.mem_append, List.mem_singleton] at hE'
    rcases hE' with z | z
    · exact a4.2 E' (by simp [z])
    · exact z ▸ hB
theorem RT.eb {G : GG} {m : MM} {d tt len : Nat} {B : Nat → Int32} {K : List Ko} {Q : List Enm} {E : Enm} {l : List Tok} (h : RT G m d tt len B K Q E l) : E.1 < 4096 ∧ EB E.2.1 E.2.2 ∧ Q.length < 8 ∧ tt ≤ 1 := by
  have := h.2.2.2.1.1
  rw [List.length_append, List.length_singleton] at this
  exact ⟨(h.2.2.2.1.2 E (by simp)).1, (h.2.2.2.1.2 E (by simp)).2, by omega, h.1.2.1.2.1⟩
theorem hz_e {o : Nat} (h : (4 ≤ o ∧ o ≤ 10) ∨ o = 38) : hsz o = 8 := by
  rcases (show o = 4 ∨ o = 5 ∨ o = 6 ∨ o = 7 ∨ o = 8 ∨ o = 9 ∨ o = 10 ∨ o = 38 by omega) with rfl | rfl | rfl | rfl | rfl | rfl | rfl | rfl <;> rfl
theorem hz_c {o : Nat} (h : 11 ≤ o ∧ o ≤ 14) : hsz o = 96 := by
  rcases (show o = 11 ∨ o = 12 ∨ o = 13 ∨ o = 14 by omega) with rfl | rfl | rfl | rfl <;> rfl
theorem hz_m {o : Nat} (h : 15 ≤ o ∧ o ≤ 18) : hsz o = 64 := by
  rcases (show o = 15 ∨ o = 16 ∨ o = 17 ∨ o = 18 by omega) with rfl | rfl | rfl | rfl <;> rfl
theorem hz_f {o : Nat} (h : 19 ≤ o ∧ o ≤ 23) : hsz o = 48 := by
  rcases (show o = 19 ∨ o = 20 ∨ o = 21 ∨ o = 22 ∨ o = 23 by omega) with rfl | rfl | rfl | rfl | rfl <;> rfl
theorem OH.e {m : MM} {d tt e o : Nat} {v : Int32} (h : (4 ≤ o ∧ o ≤ 10) ∨ o = 38) (he : e < 8) : OH m (sI m (d + o) (8 * tt + e) v) d tt := OH.a (by omega) (by omega) (by rw [hz_e h]; omega) (by rw [hz_e h]; omega)
theorem OH.c {m : MM} {d tt e o c : Nat} {v : Int32} (h : 11 ≤ o ∧ o ≤ 14) (he : e < 8) (hc : c < 12) : OH m (sI m (d + o) (12 * (8 * tt + e) + c) v) d tt := OH.a (by omega) (by omega) (by rw [hz_c h]; omega) (by rw [hz_c h]; omega)
theorem OH.m {m : MM} {d tt e o c : Nat} {v : Int32} (h : 15 ≤ o ∧ o ≤ 18) (he : e < 8) (hc : c < 8) : OH m (sI m (d + o) (8 * (8 * tt + e) + c) v) d tt := OH.a (by omega) (by omega) (by rw [hz_m h]; omega) (by rw [hz_m h]; omega)
theorem OH.fl {m : MM} {d tt e o c : Nat} {v : Int32} (h : 19 ≤ o ∧ o ≤ 23) (he : e < 8) (hc : c < 6) : OH m (sI m (d + o) (6 * (8 * tt + e) + c) v) d tt := OH.a (by omega) (by omega) (by rw [hz_f h]; omega) (by rw [hz_f h]; omega)
theorem QC.set {m m1 : MM} {d ge : Nat} {B : Nat → Int32} {cs : List Con} {q : Con} (h : ∀ c q, cs[c]? = some q → gI m (d + 11) (12 * ge + c) = nI q.1 ∧ gI m (d + 12) (12 * ge + c) = nI (nl B q.1) ∧ gI m (d + 13) (12 * ge + c) = nI q.2.1 ∧ gI m (d + 14) (12 * ge + c) = nI q.2.2) (h6 : gI m1 (d + 6) ge = nI (cs.length + 1)) (ho : ∀ o j, 11 ≤ o → o ≤ 14 → j ≠ 12 * ge + cs.length → gI m1 (d + o) j = gI m (d + o) j) (h1 : gI m1 (d + 11) (12 * ge + cs.length) = nI q.1) (h2 : gI m1 (d + 12) (12 * ge + cs.length) = nI (nl B q.1)) (h3 : gI m1 (d + 13) (12 * ge + cs.length) = nI q.2.1) (h4 : gI m1 (d + 14) (12 * ge + cs.length) = nI q.2.2) : QC m1 d B ge (cs ++ [q]) := by
  refine ⟨by rw [h6, List.length_append]; rfl, fun c x hx => ?_⟩
  rcases ap_get hx with ⟨a, b⟩ | ⟨a, b⟩
  · obtain ⟨c1, c2, c3, c4⟩ := h c x b
    exact ⟨by rw [ho _ _ (by omega) (by omega) (by omega)]; exact c1, by rw [ho _ _ (by omega) (by omega) (by omega)]; exact c2, by rw [ho _ _ (by omega) (by omega) (by omega)]; exact c3, by rw [ho _ _ (by omega) (by omega) (by omega)]; exact c4⟩
  · subst a
    subst b
    exact ⟨h1, h2, h3, h4⟩
theorem QC.init {m : MM} {d ge : Nat} {B : Nat → Int32} {cs : List Con} {q : Con} (h : QC m d B ge (cs ++ [q])) : ∀ c q, cs[c]? = some q → gI m (d + 11) (12 * ge + c) = nI q.1 ∧ gI m (d + 12) (12 * ge + c) = nI (nl B q.1) ∧ gI m (d + 13) (12 * ge + c) = nI q.2.1 ∧ gI m (d + 14) (12 * ge + c) = nI q.2.2 := fun c x hx => h.2 c x (by rw [List.getElem?_append_left (get_lt hx)]; exact hx)
/-- the number of the last constant -/
theorem RT.num {G : GG} {m : MM} {d tt len p pc w b v : Nat} {B : Nat → Int32} {K : List Ko} {Q : List Enm} {cs : List Con} {l : List Tok} (h : RT G m d tt len B K Q (p, cs ++ [(pc, w, b)], []) l) (hv : v < 1000000000) : RT G (sI m (d + 13) (12 * (8 * tt + Q.length) + cs.length) (nI v)) d tt len B K Q (p, cs ++ [(pc, v, b)], []) l ∧ OH m (sI m (d + 13) (12 * (8 * tt + Q.length) + cs.length) (nI v)) d tt := by
  obtain ⟨b1, b2, b3, b4⟩ := h.eb
  have hc := b2.1
  rw [List.length_append, List.length_singleton] at hc
  obtain ⟨q1, q2, q3, q4, q5, q6⟩ := h.2.1.cur
  obtain ⟨x1, x2, x3, x4⟩ := q3.2 cs.length _ get_app
  have ne : ∀ o j, o ≠ 13 → gI (sI m (d + 13) (12 * (8 * tt + Q.length) + cs.length) (nI v)) (d + o) j = gI m (d + o) j := fun o j ho => gI_sI_ne (Or.inl (by omega))
  have ea : ∀ os : List Nat, 13 ∉ os → EQA m (sI m (d + 13) (12 * (8 * tt + Q.length) + cs.length) (nI v)) d os := fun os hos o ho => (sI_off (by have : o ≠ 13 := fun z => hos (z ▸ ho); omega)).1
  refine ⟨h.set (h.1.wr (by omega) (by omega)) (EO.w (by omega)) (fun i i1 i2 => (sI_off (by omega)).1) ⟨by rw [ne _ _ (by omega)]; exact q1, by rw [ne _ _ (by omega)]; exact q2, ?_, q4.eq (ea _ (by decide)), q5.eq (ea _ (by decide)), q6.eq (ea _ (by decide))⟩ ⟨b1, b2.arg ⟨(b2.2.2.2.1 (pc, w, b) (by simp)).1, hv, (b2.2.2.2.1 (pc, w, b) (by simp)).2.2⟩⟩, OH.c (by omega) b3 (by omega)⟩
  refine QC.set q3.init (by rw [ne _ _ (by omega), q3.1, List.length_append]; rfl) (fun o j o1 o2 hj => ?_) (by rw [ne _ _ (by omega)]; exact x1) (by rw [ne _ _ (by omega)]; exact x2) gI_sI_eq (by rw [ne _ _ (by omega)]; exact x4)
  by_cases z : o = 13
  · subst z; exact gI_sI_ne (Or.inr hj)
  · exact ne o j z
theorem RT.bdy {G : GG} {m : MM} {d tt len p pc w b : Nat} {B : Nat → Int32} {K : List Ko} {Q : List Enm} {cs : List Con} {l : List Tok} (h : RT G m d tt len B K Q (p, cs ++ [(pc, w, b)], []) l) : RT G (sI m (d + 14) (12 * (8 * tt + Q.length) + cs.length) (nI 1)) d tt len B K Q (p, cs ++ [(pc, w, 1)], []) l ∧ OH m (sI m (d + 14) (12 * (8 * tt + Q.length) + cs.length) (nI 1)) d tt := by
  obtain ⟨b1, b2, b3, b4⟩ := h.eb
  have hc := b2.1
  rw [List.length_append, List.length_singleton] at hc
  obtain ⟨q1, q2, q3, q4, q5, q6⟩ := h.2.1.cur
  obtain ⟨x1, x2, x3, x4⟩ := q3.2 cs.length _ get_app
  have ne : ∀ o j, o ≠ 14 → gI (sI m (d + 14) (12 * (8 * tt + Q.length) + cs.length) (nI 1)) (d + o) j = gI m (d + o) j := fun o j ho => gI_sI_ne (Or.inl (by omega))
  have ea : ∀ os : List Nat, 14 ∉ os → EQA m (sI m (d + 14) (12 * (8 * tt + Q.length) + cs.length) (nI 1)) d os := fun os hos o ho => (sI_off (by have : o ≠ 14 := fun z => hos (z ▸ ho); omega)).1
  refine ⟨h.set (h.1.wr (by omega) (by omega)) (EO.w (by omega)) (fun i i1 i2 => (sI_off (by omega)).1) ⟨by rw [ne _ _ (by omega)]; exact q1, by rw [ne _ _ (by omega)]; exact q2, ?_, q4.eq (ea _ (by decide)), q5.eq (ea _ (by decide)), q6.eq (ea _ (by decide))⟩ ⟨b1, b2.arg ⟨(b2.2.2.2.1 (pc, w, b) (by simp)).1, (b2.2.2.2.1 (pc, w, b) (by simp)).2.1, by simp⟩⟩, OH.c (by omega) b3 (by omega)⟩
  refine QC.set q3.init (by rw [ne _ _ (by omega), q3.1, List.length_append]; rfl) (fun o j o1 o2 hj => ?_) (by rw [ne _ _ (by omega)]; exact x1) (by rw [ne _ _ (by omega)]; exact x2) (by rw [ne _ _ (by omega)]; exact x3) gI_sI_eq
  by_cases z : o = 14
  · subst z; exact gI_sI_ne (Or.inr hj)
  · exact ne o j z
/-- one more constant -/
theorem RT.con {G : GG} {m : MM} {d tt len p pc : Nat} {B : Nat → Int32} {K : List Ko} {Q : List Enm} {cs : List Con} {l : List Tok} (h : RT G m d tt len B K Q (p, cs, []) l) (hc : cs.length < 12) (hp : pc < 4096) : ∃ m1, sI (sI (sI (sI (sI m (d + 11) (12 * (8 * tt + Q.length) + cs.length) (nI pc)) (d + 12) (12 * (8 * tt + Q.length) + cs.length) (nI (nl B pc))) (d + 13) (12 * (8 * tt + Q.length) + cs.length) 0) (d + 14) (12 * (8 * tt + Q.length) + cs.length) 0) (d + 6) (8 * tt + Q.length) (nI (cs.length + 1)) = m1 ∧ RT G m1 d tt len B K Q (p, cs ++ [(pc, 0, 0)], []) l ∧ OH m m1 d tt := by
  obtain ⟨b1, b2, b3, b4⟩ := h.eb
  obtain ⟨q1, q2, q3, q4, q5, q6⟩ := h.2.1.cur
  refine ⟨_, rfl, ?_, ((((OH.c (by omega) b3 hc).tr (OH.c (by omega) b3 hc)).tr (OH.c (by omega) b3 hc)).tr (OH.c (by omega) b3 hc)).tr (OH.e (by omega) b3)⟩
  obtain ⟨m1, em⟩ : ∃ m1, sI (sI (sI (sI (sI m (d + 11) (12 * (8 * tt + Q.length) + cs.length) (nI pc)) (d + 12) (12 * (8 * tt + Q.length) + cs.length) (nI (nl B pc))) (d + 13) (12 * (8 * tt + Q.length) + cs.length) 0) (d + 14) (12 * (8 * tt + Q.length) + cs.length) 0) (d + 6) (8 * tt + Q.length) (nI (cs.length + 1)) = m1 := ⟨_, rfl⟩
  have hre : RE G m1 d tt len B Q.length (aK K) [] l none := by
    rw [← em]
    exact ((((h.1.wr (by omega) (by omega)).wr (by omega) (by omega)).wr (by omega) (by omega)).wr (by omega) (by omega)).wr (by omega) (by omega)
  have heo : EO m m1 d (8 * tt + Q.length) := by
    rw [← em]
    exact ((((EO.w (by omega)).tr (EO.w (by omega))).tr (EO.w (by omega))).tr (EO.w (by omega))).tr (EO.w (by omega))
  have off : ∀ i, i ≠ 11 → i ≠ 12 → i ≠ 13 → i ≠ 14 → i ≠ 6 → m1.1 (d + i) = m.1 (d + i) := fun i i1 i2 i3 i4 i5 => by
    rw [← em, (sI_off (show d + i ≠ d + 6 by omega)).1, (sI_off (show d + i ≠ d + 14 by omega)).1, (sI_off (show d + i ≠ d + 13 by omega)).1, (sI_off (show d + i ≠ d + 12 by omega)).1, (sI_off (show d + i ≠ d + 11 by omega)).1]
  rw [em]
  have ne : ∀ o j, o ≠ 11 → o ≠ 12 → o ≠ 13 → o ≠ 14 → o ≠ 6 → gI m1 (d + o) j = gI m (d + o) j := fun o j i1 i2 i3 i4 i5 => congrFun (off o i1 i2 i3 i4 i5) j
  have ea : ∀ os : List Nat, (∀ o ∈ os, o ≠ 11 ∧ o ≠ 12 ∧ o ≠ 13 ∧ o ≠ 14 ∧ o ≠ 6) → EQA m m1 d os := fun os hos o ho => by
    obtain ⟨x1, x2, x3, x4, x5⟩ := hos o ho
    exact off o x1 x2 x3 x4 x5
  refine h.set hre heo (fun i i1 i2 => off i (by omega) (by omega) (by omega) (by omega) (by omega)) ⟨by rw [ne _ _ (by omega) (by omega) (by omega) (by omega) (by omega)]; exact q1, by rw [ne _ _ (by omega) (by omega) (by omega) (by omega) (by omega)]; exact q2, ?_, q4.eq (ea _ (by simp)), q5.eq (ea _ (by simp)), q6.eq (ea _ (by simp))⟩ ⟨b1, ?_⟩
  · refine QC.set q3.2 (by rw [← em, gI_sI_eq]) (fun o j o1 o2 hj => ?_) (by rw [← em]; simp [gI_sI]) (by rw [← em]; simp [gI_sI]) (by rw [← em]; simp [gI_sI]; rfl) (by rw [← em]; simp [gI_sI]; rfl)
    rw [← em]
    have hj6 : o ≠ 6 := by omega
    simp [gI_sI, hj, hj6]
  · obtain ⟨a1, a2, a3, a4, a5⟩ := b2
    refine ⟨by rw [List.length_append]; exact hc, a2, a3, fun z hz => ?_, a5⟩
    rw [List.mem_append, List.mem_singleton] at hz
    rcases hz with y | y
    · exact a4 z y
    · subst y; exact ⟨hp, by simp, by simp⟩
theorem mc_body {G : GG} {m : MM} {d tt len p pc v : Nat} {B : Nat → Int32} {K : List Ko} {Q : List Enm} {cs : List Con} {l : List Tok} (h : RT G m d tt len B K Q (p, cs ++ [(pc, v, 0)], []) l) : (∀ b K1 r, pBdy Q.length cs.length K l = (some (b, K1), r) → RG G m d tt len B (B_X11_readConst_142 G d (nI (12 * (8 * tt + Q.length) + cs.length)) m) K1 Q (p, cs ++ [(pc, v, b)], []) r) ∧ ∀ r, pBdy Q.length cs.length K l = (none, r) → RB G m d tt len B (B_X11_readConst_142 G d (nI (12 * (8 * tt + Q.length) + cs.length)) m) Q.length r := by
  obtain ⟨b1, b2, b3, b4⟩ := h.eb
  have hc := b2.1
  rw [List.length_append, List.length_singleton] at hc
  unfold B_X11_readConst_142 pBdy
  rw [bd_e h.1.gT, if_pos rfl, show (123 : Int32) = nI 123 from rfl, bd_e (h.1.isAt (by omega))]
  by_cases q : hd l = 123
  · obtain ⟨r1, r2⟩ := h.bdy
    rw [decide_eq_true q, if_pos rfl, if_pos q, nb_e (mr_17 h.1.1), mz_17 h.1.1, ib_n (by omega) (by omega), nI_clamp (by omega), show (1 : Int32) = nI 1 from rfl]
    obtain ⟨m1, e1, e2, e3, e4, e5⟩ := r1.next (by omega)
    rw [bd_e e1]
    have hK : RT G m1 d tt len B (K ++ [bdyK Q.length cs.length]) Q (p, cs ++ [(pc, v, 1)], []) l.tail := by
      obtain ⟨a1, a2, a3, a4, a5⟩ := e2
      have eaK : aK (K ++ [bdyK Q.length cs.length]) = aK K := by rw [aK_app]; simp [aK, isA, bdyK]
      have egv : gvi 0 (K ++ [bdyK Q.length cs.length]) = gvi 0 K := by rw [gvi_app]; simp [gvi, bdyK]
      exact ⟨by rw [eaK]; exact a1, a2.app, a3.app (by simp [bdyK]), a4, by rw [egv]; exact a5.1, by have := r1.2.2.2.2.2; rw [List.length_append, List.length_singleton]; omega⟩
    have hlen := hK.1.2.2.2.2.2.2.2.2.2.1
    obtain ⟨g1, g2⟩ := mc_gives (c := cs.length) (by omega) FU 2002 m1 _ _ hK (by unfold FU; omega) (by omega)
    have o1 := r2.tr e3.H
    cases hp : pGv Q.length cs.length 2002 (K ++ [bdyK Q.length cs.length]) l.tail with
    | mk o r =>
      cases o with
      | none =>
        refine ⟨fun b K1 r z => by simp at z, fun r' z => ?_⟩
        cases z
        exact (g2 r hp).tr o1
      | some K1 =>
        refine ⟨fun b K2 r' z => ?_, fun r' z => by simp at z⟩
        cases z
        exact (g1 K1 r hp).tr o1
  · rw [decide_eq_false q, if_neg ff, if_neg q]
    refine ⟨fun b K1 r z => ?_, fun r z => by simp at z⟩
    cases z
    exact ⟨m, rfl, OH.rf, h⟩
def pC1 (en : Nat) (cs : List Con) (K : List Ko) (l : List Tok) : Option (Con × List Ko) × List Tok :=
  if hd l = 128 ∧ cs.length < 12 then (match pArg l.tail with
      | (none, r) => (none, r)
      | (some v, l1) => match pBdy en cs.length K l1 with
        | (none, r) => (none, r)
        | (some (b, K1), l2) => (some ((plc l, v, b), K1), l2))
    else (none, l)
theorem pCs_eq (en f : Nat) (cs : List Con) (K : List Ko) (l : List Tok) : pCs en (f + 1) cs K l = match pC1 en cs K l with
    | (none, r) => (none, r)
    | (some (q, K1), l2) => if hd l2 = 44 then pCs en f (cs ++ [q]) K1 l2.tail else (some (cs ++ [q], K1), l2) := by
  rw [pCs]
  unfold pC1
  split
  · cases pArg l.tail with
    | mk o r =>
      cases o with
      | none => rfl
      | some v =>
        dsimp only
        cases pBdy en cs.length K r with
        | mk o2 r2 =>
          cases o2 with
          | none => rfl
          | some bk => rfl
  · rfl
theorem mc_const {G : GG} {m : MM} {d tt len p : Nat} {B : Nat → Int32} {K : List Ko} {Q : List Enm} {cs : List Con} {l : List Tok} (h : RT G m d tt len B K Q (p, cs, []) l) : (∀ q K1 r, pC1 Q.length cs K l = (some (q, K1), r) → RG G m d tt len B (M_X11_readConst G d m) K1 Q (p, cs ++ [q], []) r) ∧ ∀ r, pC1 Q.length cs K l = (none, r) → RB G m d tt len B (M_X11_readConst G d m) Q.length r := by
  obtain ⟨b1, b2, b3, b4⟩ := h.eb
  have hc := b2.1
  have hL := h.1.1
  obtain ⟨t, rs, el, z2, c1, c2, c3, c4⟩ := h.1.tok
  subst el
  obtain ⟨-, d1, -⟩ := tc_all t.1 c1
  obtain ⟨q1, q2, q3, q4, q5, q6⟩ := h.2.1.cur
  have h48 := h.1.2.2.2.2.2.2.2.1
  unfold M_X11_readConst pC1
  rw [z2.2.1]
  have stopped : ∃ m1, (bd (M_X11_stop G d m) fun _ m_53 => some ((), m_53)) = some ((), m1) ∧ OH m m1 d tt ∧ RE G m1 d tt len B Q.length (aK K) [] (t :: rs) (some (plc (t :: rs))) := by
    obtain ⟨m1, e1, e2, e3⟩ := h.1.stop
    rw [bd_e e1]
    exact ⟨m1, rfl, (e3.oh (by simp)).H, e2⟩
  obtain ⟨mS, s1, s2, s3⟩ := stopped
  by_cases q : ¬ t.1 = 128
  · rw [if_neg (fun z => q z.1), if_neg (fun z => q (d1.mp z)), s1]
    refine ⟨fun q K1 r z => by simp at z, fun r z => ?_⟩
    cases z
    exact ⟨mS, _, _, rfl, s2, s3⟩
  have q : t.1 = 128 := Decidable.not_not.mp q
  have cg : (nI (8 * tt + Q.length)).toNatClampNeg = 8 * tt + Q.length := nI_clamp (by omega)
  rw [if_pos (d1.mpr q), nb_e (mr_9 hL), mz_9 hL, h48, ib_n (by omega) (by omega), cg, q3.1]
  by_cases q12 : ¬ cs.length < 12
  · rw [if_neg (fun z => q12 z.2), if_pos (by rw [show cs.length = 12 by have : cs.length ≤ 12 := hc; omega]; rfl), s1]
    refine ⟨fun q K1 r z => by simp at z, fun r z => ?_⟩
    cases z
    exact ⟨mS, _, _, rfl, s2, s3⟩
  have q12 : cs.length < 12 := Decidable.not_not.mp q12
  rw [if_pos ⟨q, q12⟩, if_neg (show ¬ nI (p, cs, ([] : List Mem)).2.1.length = 12 from k_ne (a := cs.length) 12 12 rfl (by omega) (by omega) (by omega)), ib_n (by omega) (by omega)]
  have ek : (12 : Int32) * nI (8 * tt + Q.length) + nI cs.length = nI (12 * (8 * tt + Q.length) + cs.length) := by rw [show (12 : Int32) = nI 12 from rfl, pk_mul, nI_add]
  have ck : (nI (12 * (8 * tt + Q.length) + cs.length)).toNatClampNeg = 12 * (8 * tt + Q.length) + cs.length := nI_clamp (by omega)
  simp only [ek, ck, gR_sI]
  rw [nb_e (mr_14 hL), mz_14 hL, ib_n (by omega) (by omega), nb_e (mr_15 hL), mz_15 hL, ib_n (by omega) (by omega), nb_e (mr_16 hL), mz_16 hL, ib_n (by omega) (by omega), nb_e (mr_17 hL), mz_17 hL, ib_n (by omega) (by omega), nb_e (mr_9 hL), mz_9 hL]
  have gg : ∀ (mz : MM) (o k j : Nat) (v : Int32), gI (sI mz (d + (o + 1)) k v) d j = gI mz d j := fun mz o k j v => gI_sI_ne (Or.inl (by omega))
  have g6 : ∀ (mz : MM) (o k j : Nat) (v : Int32), gI (sI mz (d + (o + 11)) k v) (d + 6) j = gI mz (d + 6) j := fun mz o k j v => gI_sI_ne (Or.inl (by omega))
  simp only [gg _ 10, gg _ 11, gg _ 12, gg _ 13, h48, cg, g6 _ 0, g6 _ 1, g6 _ 2, g6 _ 3, q3.1, z2.1, z2.2.2.2.2 (Or.inl q), nI_1]
  rw [ib_n (by omega) (by omega), ib_n (by omega) (by omega)]
  obtain ⟨mA, eA, hA, oA⟩ := h.con (pc := t.2.1) q12 c2
  rw [eA]
  obtain ⟨mB, e1, e2, e3, e4, e5⟩ := hA.next (show t.1 ≠ 130 by omega)
  have oB := oA.tr e3.H
  rw [bd_e e1, show (40 : Int32) = nI 40 from rfl, bd_e (e2.1.isAt (by omega)), show (t :: rs).tail = rs from rfl, show plc (t :: rs) = t.2.1 from rfl]
  have htl : (t :: rs).tail = rs := rfl
  rw [htl] at e2 e4 e5
  -- the body behind the number
  have rest : ∀ (mz : MM) (v : Nat) (l1 : List Tok), RT G mz d tt len B K Q (p, cs ++ [(t.2.1, v, 0)], []) l1 → OH m mz d tt → (∀ q K1 r, (match pBdy Q.length cs.length K l1 with
        | (none, r) => (none, r)
        | (some (b, K1), l2) => (some ((t.2.1, v, b), K1), l2)) = (some (q, K1), r) → RG G m d tt len B (B_X11_readConst_142 G d (nI (12 * (8 * tt + Q.length) + cs.length)) mz) K1 Q (p, cs ++ [q], []) r) ∧ ∀ r, (match pBdy Q.length cs.length K l1 with
        | (none, r) => ((none, r) : Option (Con × List Ko) × List Tok)
        | (some (b, K1), l2) => (some ((t.2.1, v, b), K1), l2)) = (none, r) → RB G m d tt len B (B_X11_readConst_142 G d (nI (12 * (8 * tt + Q.length) + cs.length)) mz) Q.length r := by
    intro mz v l1 hz oz
    obtain ⟨x1, x2⟩ := mc_body hz
    cases hp : pBdy Q.length cs.length K l1 with
    | mk o r =>
      cases o with
      | none =>
        refine ⟨fun q K1 r z => by simp at z, fun r' z => ?_⟩
        cases z
        exact (x2 r hp).tr oz
      | some bK =>
        obtain ⟨b, K1⟩ := bK
        refine ⟨fun q K2 r' z => ?_, fun r' z => by simp at z⟩
        cases z
        exact (x1 b K1 r hp).tr oz
  unfold pArg
  by_cases q40 : hd rs = 40
  · rw [decide_eq_true q40, if_pos rfl, if_pos q40]
    obtain ⟨mC, f1, f2, f3, f4, f5⟩ := e2.next (by omega)
    have oC := oB.tr f3.H
    obtain ⟨t', rs', el', y2, y3, y4, y5, y6⟩ := f2.1.tok
    obtain ⟨-, -, x2, -⟩ := tc_all t'.1 y3
    rw [bd_e f1, y2.2.1, el']
    by_cases q129 : t'.1 = 129
    · rw [if_pos (x2.mpr q129), if_pos (show hd (t' :: rs') = 129 from q129), nb_e (mr_16 f2.1.1), mz_16 f2.1.1, ib_n (by omega) (by omega), y2.2.2.2.1 q129]
      obtain ⟨w1, w2⟩ := f2.num (v := t'.2.2) y5
      rw [el'] at w1
      obtain ⟨mD, g1, g2, g3, g4, g5⟩ := w1.next (show t'.1 ≠ 130 by omega)
      have oD := (oC.tr w2).tr g3.H
      rw [bd_e g1, show (41 : Int32) = nI 41 from rfl, show (t' :: rs').tail = rs' from rfl, show nmb (t' :: rs') = t'.2.2 from rfl]
      have htl' : (t' :: rs').tail = rs' := rfl
      rw [htl'] at g2
      obtain ⟨n1, n2⟩ := g2.need (w := 41) (by omega)
      by_cases q41 : hd rs' = 41
      · obtain ⟨mE, i1, i2, i3, i4, i5⟩ := n1 q41
        rw [bd_e i1, if_pos q41]
        exact rest mE t'.2.2 rs'.tail i2 (oD.tr i3.H)
      · obtain ⟨mE, i1, i2, i3⟩ := n2 q41
        rw [bd_e i1, if_neg q41]
        unfold B_X11_readConst_142
        rw [bd_e i2.gF, if_neg ff]
        refine ⟨fun q K1 r z => by simp at z, fun r z => ?_⟩
        cases z
        exact ⟨mE, _, _, rfl, oD.tr i3.H, i2⟩
    · rw [if_neg (fun z => q129 (x2.mp z)), if_neg (show ¬ hd (t' :: rs') = 129 from q129)]
      obtain ⟨mD, g1, g2, g3⟩ := f2.1.stop
      rw [bd_e g1]
      refine ⟨fun q K1 r z => by simp at z, fun r z => ?_⟩
      cases z
      rw [el'] at g2
      exact ⟨mD, _, _, rfl, oC.tr (g3.oh (by simp)).H, g2⟩
  · rw [decide_eq_false q40, if_neg ff, if_neg q40]
    exact rest mB 0 rs e2 oB
