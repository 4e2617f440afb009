/-! ===== L2: the reference's run: what it holds ===== -/
/-- a frame: enumeration, constant, where in an exp (none: a start) -/
abbrev Fr : Type := Nat × Nat × Option (Nat × Nat)
def FrS (m : MM) (d : Nat) : List Fr → Prop
  | [] => True
  | f :: l => (gI m (d + 47) l.length = nI f.1 ∧ gI m (d + 48) l.length = nI f.2.1 ∧ (match f.2.2 with
      | none => gI m (d + 49) l.length = -1
      | some x => gI m (d + 49) l.length = nI x.1 ∧ gI m (d + 50) l.length = nI x.2)) ∧ FrS m d l
theorem FrS.kept {m m1 : MM} {d : Nat} : ∀ {fr : List Fr}, FrS m d fr → (∀ o j, 47 ≤ o → o ≤ 50 → j < fr.length → gI m1 (d + o) j = gI m (d + o) j) → FrS m1 d fr := by
  intro fr
  induction fr with
  | nil => intro _ _; trivial
  | cons f l ih =>
    intro h o
    obtain ⟨⟨h1, h2, h3⟩, h4⟩ := h
    have hl : l.length < (f :: l).length := by rw [List.length_cons]; omega
    refine ⟨⟨by rw [o 47 _ (by omega) (by omega) hl]; exact h1, by rw [o 48 _ (by omega) (by omega) hl]; exact h2, ?_⟩, ih h4 (fun p j a b c => o p j a b (by omega))⟩
    revert h3
    cases f.2.2 with
    | none => intro h3; dsimp only at h3 ⊢; rw [o 49 _ (by omega) (by omega) hl]; exact h3
    | some x => intro h3; dsimp only at h3 ⊢; rw [o 49 _ (by omega) (by omega) hl, o 50 _ (by omega) (by omega) hl]; exact h3
def RSg (m : MM) (d : Nat) (P : List Enm) (g : Sg) : Prop := ∀ e E, P[e]? = some E → gI m (d + 42) e = nI (g.1 e) ∧ (g.1 e = 3 → gI m (d + 45) e = nI (g.2.1 e)) ∧ (∀ c, c < E.2.1.length → (g.1 e = 1 ∨ (g.1 e = 3 ∧ c < g.2.1 e)) → gI m (d + 43) (12 * e + c) = g.2.2.1 e c) ∧ ∀ i q, (fls E.2.2)[i]? = some q → q.1 = 7 → (g.1 e = 1 ∨ (g.1 e = 3 ∧ E.2.1.length + i < g.2.1 e)) → gI m (d + 44) (6 * e + i) = g.2.2.2.1 e i
theorem RSg.kept {m m1 : MM} {d : Nat} {P : List Enm} {g : Sg} (h : RSg m d P g) (o : ∀ i, 42 ≤ i → i ≤ 45 → m1.1 (d + i) = m.1 (d + i)) : RSg m1 d P g := fun e E hE => by
  obtain ⟨a1, a2, a3, a4⟩ := h e E hE
  exact ⟨(congrFun (o 42 (by omega) (by omega)) _).trans a1, fun z => (congrFun (o 45 (by omega) (by omega)) _).trans (a2 z), fun c x y => (congrFun (o 43 (by omega) (by omega)) _).trans (a3 c x y), fun i q x y z => (congrFun (o 44 (by omega) (by omega)) _).trans (a4 i q x y z)⟩
def RTr (m : MM) (d : Nat) (tr : List Int32) : Prop := gI m d 61 = nI tr.length ∧ tr.length ≤ 200 ∧ ∀ k v, tr[k]? = some v → gI m (d + 46) k = v
theorem RTr.kept {m m1 : MM} {d : Nat} {tr : List Int32} (h : RTr m d tr) (o : gI m1 d 61 = gI m d 61) (o2 : m1.1 (d + 46) = m.1 (d + 46)) : RTr m1 d tr := ⟨o.trans h.1, h.2.1, fun k v hk => (congrFun o2 k).trans (h.2.2 k v hk)⟩
/-- what the reference holds of a loaded text -/
def RQ (G : GG) (m : MM) (d tt : Nat) (B : Nat → Int32) (K : List Ko) (P : List Enm) : Prop := LM G m d ∧ gI m d 3 = nI tt ∧ tt ≤ 1 ∧ QP m d tt B K P ∧ GV m d tt B K ∧ RA m d tt B (aK K) ∧ ∀ j q, (aK K)[j]? = some q → AB m d tt B P j q
/-- what a run may change -/
def OMr (m m1 : MM) (d : Nat) : Prop := OM m m1 d [61, 62, 63, 64, 70] [42, 43, 44, 45, 46, 47, 48, 49, 50, 51]
theorem OMr.rf {m : MM} {d : Nat} : OMr m m d := OM.rf
theorem OMr.tr {m m1 m2 : MM} {d : Nat} (h : OMr m m1 d) (h2 : OMr m1 m2 d) : OMr m m2 d := OM.tr1 h h2
theorem OMr.f {m : MM} {d k : Nat} {v : Int32} (hk : k = 61 ∨ k = 62 ∨ k = 63 ∨ k = 64 ∨ k = 70) : OMr m (sI m d k v) d := OM.f.mono (fun a ha => by simp at ha; subst ha; simp; omega) (fun a ha => by simp at ha)
theorem OMr.a {m : MM} {d o k : Nat} {v : Int32} (h1 : 42 ≤ o) (h2 : o ≤ 51) : OMr m (sI m (d + o) k v) d := (OM.a (by omega)).mono (fun a ha => by simp at ha) (fun a ha => by simp at ha; subst ha; simp; omega)
theorem OMr.far {m m1 : MM} {d o : Nat} (h : OMr m m1 d) (ho : 0 < o) (hn : o < 42 ∨ 51 < o) : m1.1 (d + o) = m.1 (d + o) := h.2.2.1 (d + o) (by omega) (fun x hx => by simp at hx; omega)
theorem OMr.fl {m m1 : MM} {d k : Nat} (h : OMr m m1 d) (hk : k < 61 ∨ k = 65 ∨ 70 < k) : gI m1 d k = gI m d k := h.2.2.2 k (by simp; omega)
theorem RQ.kept {G : GG} {m m1 : MM} {d tt : Nat} {B : Nat → Int32} {K : List Ko} {P : List Enm} (h : RQ G m d tt B K P) (o : OMr m m1 d) : RQ G m1 d tt B K P := by
  obtain ⟨h1, h2, h3, h4, h5, h6, h7⟩ := h
  refine ⟨h1.kept o, by rw [o.fl (by omega)]; exact h2, h3, h4.eq (fun i a b => o.far (by omega) (by omega)), h5.eq (fun i a b => o.far (by omega) (by omega)), h6.kept (fun i a b c => o.far (by omega) (by omega)), fun j q hq => ?_⟩
  obtain ⟨a1, a2⟩ := h7 j q hq
  refine ⟨fun z => ?_, fun z e c hc => ?_⟩
  · obtain ⟨E, e1, e2⟩ := a1 z
    exact ⟨E, e1, (congrFun (o.far (by omega) (by omega)) _).trans e2⟩
  · obtain ⟨e1, e2⟩ := a2 z e c hc
    exact ⟨(congrFun (o.far (by omega) (by omega)) _).trans e1, (congrFun (o.far (by omega) (by omega)) _).trans e2⟩
/-- where the reference stands in a run -/
def RC (G : GG) (m : MM) (d tt : Nat) (B : Nat → Int32) (K : List Ko) (P : List Enm) (g : Sg) (fr : List Fr) (st : List Int32) (ca : Nat) (fc : Int32) : Prop := RQ G m d tt B K P ∧ RSg m d P g ∧ RTr m d g.2.2.2.2 ∧ (gI m d 64 = nI fr.length ∧ FrS m d fr) ∧ (gI m d 70 = nI st.length ∧ SK m (d + 51) st) ∧ gI m d 62 = nI ca ∧ gI m d 63 = fc
theorem aI {m : MM} {d o p k : Nat} {v : Int32} (h : o ≠ p) : (sI m (d + p) k v).1 (d + o) = m.1 (d + o) := sI_ne (by omega)
theorem fI {m : MM} {d o k : Nat} {v : Int32} (h : 0 < o) : (sI m d k v).1 (d + o) = m.1 (d + o) := sI_ne (by omega)
/-- fewer frames -/
theorem RC.popF {G : GG} {m : MM} {d tt : Nat} {B : Nat → Int32} {K : List Ko} {P : List Enm} {g : Sg} {f : Fr} {fr : List Fr} {st : List Int32} {ca : Nat} {fc : Int32} (h : RC G m d tt B K P g (f :: fr) st ca fc) : RC G (sI m d 64 (nI fr.length)) d tt B K P g fr st ca fc ∧ OMr m (sI m d 64 (nI fr.length)) d := by
  obtain ⟨a1, a2, a3, a4, a5, a6, a7⟩ := h
  have o : OMr m (sI m d 64 (nI fr.length)) d := OMr.f (by omega)
  exact ⟨⟨a1.kept o, a2.kept (fun i _ _ => fI (by omega)), a3.kept (gI_sI_ne (Or.inr (by omega))) (fI (by omega)), ⟨gI_sI_eq, a4.2.2.kept (fun p j x _ _ => congrFun (fI (by omega)) j)⟩, ⟨by rw [gI_sI_ne (Or.inr (by omega))]; exact a5.1, a5.2.kept (fun j _ => congrFun (fI (by omega)) j)⟩, by rw [gI_sI_ne (Or.inr (by omega))]; exact a6, by rw [gI_sI_ne (Or.inr (by omega))]; exact a7⟩, o⟩
/-- a lower stack -/
theorem RC.popS {G : GG} {m : MM} {d tt : Nat} {B : Nat → Int32} {K : List Ko} {P : List Enm} {g : Sg} {fr : List Fr} {st s t : List Int32} {ca : Nat} {fc : Int32} (h : RC G m d tt B K P g fr st ca fc) (e : st = s ++ t) : RC G (sI m d 70 (nI t.length)) d tt B K P g fr t ca fc ∧ OMr m (sI m d 70 (nI t.length)) d := by
  obtain ⟨a1, a2, a3, a4, a5, a6, a7⟩ := h
  have o : OMr m (sI m d 70 (nI t.length)) d := OMr.f (by omega)
  rw [e] at a5
  exact ⟨⟨a1.kept o, a2.kept (fun i _ _ => fI (by omega)), a3.kept (gI_sI_ne (Or.inr (by omega))) (fI (by omega)), ⟨by rw [gI_sI_ne (Or.inr (by omega))]; exact a4.1, a4.2.kept (fun p j x _ _ => congrFun (fI (by omega)) j)⟩, ⟨gI_sI_eq, a5.2.app.kept (fun j _ => congrFun (fI (by omega)) j)⟩, by rw [gI_sI_ne (Or.inr (by omega))]; exact a6, by rw [gI_sI_ne (Or.inr (by omega))]; exact a7⟩, o⟩
/-- a cause is told -/
theorem RC.cau {G : GG} {m : MM} {d tt : Nat} {B : Nat → Int32} {K : List Ko} {P : List Enm} {g : Sg} {fr : List Fr} {st : List Int32} {ca k : Nat} {fc : Int32} (h : RC G m d tt B K P g fr st ca fc) : RC G (sI (sI m d 62 (nI k)) d 63 (fc + 1)) d tt B K P g fr st k (fc + 1) ∧ OMr m (sI (sI m d 62 (nI k)) d 63 (fc + 1)) d := by
  obtain ⟨a1, a2, a3, a4, a5, a6, a7⟩ := h
  have o : OMr m (sI (sI m d 62 (nI k)) d 63 (fc + 1)) d := (OMr.f (by omega)).tr (OMr.f (by omega))
  have fi : ∀ p, 0 < p → (sI (sI m d 62 (nI k)) d 63 (fc + 1)).1 (d + p) = m.1 (d + p) := fun p hp => by rw [fI hp, fI hp]
  have gi : ∀ p, p ≠ 62 → p ≠ 63 → gI (sI (sI m d 62 (nI k)) d 63 (fc + 1)) d p = gI m d p := fun p x y => by rw [gI_sI_ne (Or.inr y), gI_sI_ne (Or.inr x)]
  exact ⟨⟨a1.kept o, a2.kept (fun i _ _ => fi _ (by omega)), a3.kept (gi _ (by omega) (by omega)) (fi _ (by omega)), ⟨by rw [gi _ (by omega) (by omega)]; exact a4.1, a4.2.kept (fun p j x _ _ => congrFun (fi _ (by omega)) j)⟩, ⟨by rw [gi _ (by omega) (by omega)]; exact a5.1, a5.2.kept (fun j _ => congrFun (fi _ (by omega)) j)⟩, by rw [gI_sI_ne (Or.inr (by omega)), gI_sI_eq], gI_sI_eq⟩, o⟩
theorem mr_note {G : GG} {m : MM} {d tt e w : Nat} {B : Nat → Int32} {K : List Ko} {P : List Enm} {g : Sg} {fr : List Fr} {st : List Int32} {ca : Nat} {fc : Int32} (h : RC G m d tt B K P g fr st ca fc) : ∃ m1, M_X11_note G d (nI e) (nI w) m = some ((), m1) ∧ RC G m1 d tt B K P (trc g (nI (1000 * e + w))) fr st ca fc ∧ OMr m m1 d := by
  obtain ⟨a1, a2, a3, a4, a5, a6, a7⟩ := h
  obtain ⟨t1, t2, t3⟩ := tad_get (v := nI (1000 * e + w)) a3.2.1
  have h2 := a3.2.1
  unfold M_X11_note
  rw [a3.1, show (200 : Int32) = nI 200 from rfl]
  by_cases z : 200 ≤ g.2.2.2.2.length
  · rw [if_pos ((nI_leI (by omega) (by omega)).mpr z)]
    refine ⟨m, rfl, ⟨a1, a2, ?_, a4, a5, a6, a7⟩, OMr.rf⟩
    show RTr m d (tad g.2.2.2.2 _)
    rw [t2 z]
    exact a3
  · rw [if_neg (fun q => z ((nI_leI (by omega) (by omega)).mp q)), nb_e (mr_60 a1.1), mz_60 a1.1, ib_n (by omega) (by omega), nI_clamp (by omega), gI_sI_ne (Or.inl (by omega)), a3.1, nI_1, show (1000 : Int32) = nI 1000 from rfl, pk_mul, nI_add]
    have o : OMr m (sI (sI m (d + 46) g.2.2.2.2.length (nI (1000 * e + w))) d 61 (nI (g.2.2.2.2.length + 1))) d := (OMr.a (by omega) (by omega)).tr (OMr.f (by omega))
    have fi : ∀ p, 0 < p → p ≠ 46 → (sI (sI m (d + 46) g.2.2.2.2.length (nI (1000 * e + w))) d 61 (nI (g.2.2.2.2.length + 1))).1 (d + p) = m.1 (d + p) := fun p hp h46 => by rw [fI hp, aI h46]
    have gi : ∀ p, p ≠ 61 → gI (sI (sI m (d + 46) g.2.2.2.2.length (nI (1000 * e + w))) d 61 (nI (g.2.2.2.2.length + 1))) d p = gI m d p := fun p x => by rw [gI_sI_ne (Or.inr x), gI_sI_ne (Or.inl (by omega))]
    refine ⟨_, rfl, ⟨a1.kept o, RSg.kept (g := g) a2 (fun i _ _ => fi _ (by omega) (by omega)), ?_, ⟨by rw [gi _ (by omega)]; exact a4.1, a4.2.kept (fun p j x _ _ => congrFun (fi _ (by omega) (by omega)) j)⟩, ⟨by rw [gi _ (by omega)]; exact a5.1, a5.2.kept (fun j _ => congrFun (fi _ (by omega) (by omega)) j)⟩, by rw [gi _ (by omega)]; exact a6, by rw [gi _ (by omega)]; exact a7⟩, o⟩
    show RTr _ d (tad g.2.2.2.2 _)
    rw [t3 (by omega)]
    refine ⟨by rw [gI_sI_eq, List.length_append]; rfl, by rw [List.length_append, List.length_singleton]; omega, fun i v' hi => ?_⟩
    rw [gI_sI_ne (Or.inl (by omega))]
    rcases ap_get hi with ⟨z1, z2⟩ | ⟨z1, z2⟩
    · rw [gI_sI_ne (Or.inr (by omega))]
      exact a3.2.2 i v' z2
    · rw [z1, z2, gI_sI_eq]
theorem mr_push {G : GG} {m : MM} {d tt : Nat} {B : Nat → Int32} {K : List Ko} {P : List Enm} {g : Sg} {fr : List Fr} {st : List Int32} {ca : Nat} {fc v : Int32} (h : RC G m d tt B K P g fr st ca fc) (hl : st.length < 2100) : ∃ m1, M_X11_push G d v m = some ((), m1) ∧ RC G m1 d tt B K P g fr (v :: st) ca fc ∧ OMr m m1 d := by
  obtain ⟨a1, a2, a3, a4, a5, a6, a7⟩ := h
  unfold M_X11_push
  rw [nb_e (mr_69 a1.1), mz_69 a1.1, a5.1, ib_n (by omega) (by omega), nI_clamp (by omega), gI_sI_ne (Or.inl (by omega)), a5.1, nI_1]
  have o : OMr m (sI (sI m (d + 51) st.length v) d 70 (nI (st.length + 1))) d := (OMr.a (by omega) (by omega)).tr (OMr.f (by omega))
  have fi : ∀ p, 0 < p → p ≠ 51 → (sI (sI m (d + 51) st.length v) d 70 (nI (st.length + 1))).1 (d + p) = m.1 (d + p) := fun p hp h46 => by rw [fI hp, aI h46]
  have gi : ∀ p, p ≠ 70 → gI (sI (sI m (d + 51) st.length v) d 70 (nI (st.length + 1))) d p = gI m d p := fun p x => by rw [gI_sI_ne (Or.inr x), gI_sI_ne (Or.inl (by omega))]
  refine ⟨_, rfl, ⟨a1.kept o, a2.kept (fun i _ _ => fi _ (by omega) (by omega)), a3.kept (gi _ (by omega)) (fi _ (by omega) (by omega)), ⟨by rw [gi _ (by omega)]; exact a4.1, a4.2.kept (fun p j x _ _ => congrFun (fi _ (by omega) (by omega)) j)⟩, ⟨by rw [gI_sI_eq, List.length_cons], ?_, a5.2.kept (fun j hj => ?_)⟩, by rw [gi _ (by omega)]; exact a6, by rw [gi _ (by omega)]; exact a7⟩, o⟩
  · rw [gI_sI_ne (Or.inl (by omega)), gI_sI_eq]
  · rw [gI_sI_ne (Or.inl (by omega)), gI_sI_ne (Or.inr (by omega))]
/-- the top of the stack is another -/
theorem RC.top {G : GG} {m : MM} {d tt : Nat} {B : Nat → Int32} {K : List Ko} {P : List Enm} {g : Sg} {fr : List Fr} {st : List Int32} {ca : Nat} {fc x v : Int32} (h : RC G m d tt B K P g fr (x :: st) ca fc) : RC G (sI m (d + 51) st.length v) d tt B K P g fr (v :: st) ca fc ∧ OMr m (sI m (d + 51) st.length v) d := by
  obtain ⟨a1, a2, a3, a4, a5, a6, a7⟩ := h
  have o : OMr m (sI m (d + 51) st.length v) d := OMr.a (by omega) (by omega)
  have gi : ∀ p, gI (sI m (d + 51) st.length v) d p = gI m d p := fun p => gI_sI_ne (Or.inl (by omega))
  exact ⟨⟨a1.kept o, a2.kept (fun i _ _ => aI (by omega)), a3.kept (gi _) (aI (by omega)), ⟨by rw [gi]; exact a4.1, a4.2.kept (fun p j x y _ => congrFun (aI (by omega)) j)⟩, ⟨by rw [gi]; exact a5.1, gI_sI_eq, a5.2.2.kept (fun j hj => gI_sI_ne (Or.inr (by omega)))⟩, by rw [gi]; exact a6, by rw [gi]; exact a7⟩, o⟩
theorem mr_frame {G : GG} {m : MM} {d tt e c : Nat} {x3 x4 : Int32} {B : Nat → Int32} {K : List Ko} {P : List Enm} {g : Sg} {fr : List Fr} {st : List Int32} {ca : Nat} {fc : Int32} {y : Option (Nat × Nat)} (h : RC G m d tt B K P g fr st ca fc) (hl : fr.length < 30) (hy : match y with
      | none => x3 = -1
      | some x => x3 = nI x.1 ∧ x4 = nI x.2) : ∃ m1, M_X11_pushFrame G d (nI e) (nI c) x3 x4 m = some ((), m1) ∧ RC G m1 d tt B K P g ((e, c, y) :: fr) st ca fc ∧ OMr m m1 d := by
  obtain ⟨a1, a2, a3, a4, a5, a6, a7⟩ := h
  obtain ⟨m1, em⟩ : ∃ m1, sI (sI (sI (sI (sI m (d + 47) fr.length (nI e)) (d + 48) fr.length (nI c)) (d + 49) fr.length x3) (d + 50) fr.length x4) d 64 (nI (fr.length + 1)) = m1 := ⟨_, rfl⟩
  have o : OMr m m1 d := by
    rw [← em]
    exact (OMr.a (by omega) (by omega)).tr ((OMr.a (by omega) (by omega)).tr ((OMr.a (by omega) (by omega)).tr ((OMr.a (by omega) (by omega)).tr (OMr.f (by omega)))))
  have fi : ∀ p, 0 < p → p < 47 ∨ 50 < p → m1.1 (d + p) = m.1 (d + p) := fun p hp hq => by rw [← em, fI hp, aI (by omega), aI (by omega), aI (by omega), aI (by omega)]
  have gi : ∀ p, p ≠ 64 → gI m1 d p = gI m d p := fun p x => by rw [← em, gI_sI_ne (Or.inr x), gI_sI_ne (Or.inl (by omega)), gI_sI_ne (Or.inl (by omega)), gI_sI_ne (Or.inl (by omega)), gI_sI_ne (Or.inl (by omega))]
  have b1 : gI m1 (d + 47) fr.length = nI e := by rw [← em, gI_sI_ne (Or.inl (by omega)), gI_sI_ne (Or.inl (by omega)), gI_sI_ne (Or.inl (by omega)), gI_sI_ne (Or.inl (by omega)), gI_sI_eq]
  have b2 : gI m1 (d + 48) fr.length = nI c := by rw [← em, gI_sI_ne (Or.inl (by omega)), gI_sI_ne (Or.inl (by omega)), gI_sI_ne (Or.inl (by omega)), gI_sI_eq]
  have b3 : gI m1 (d + 49) fr.length = x3 := by rw [← em, gI_sI_ne (Or.inl (by omega)), gI_sI_ne (Or.inl (by omega)), gI_sI_eq]
  have b4 : gI m1 (d + 50) fr.length = x4 := by rw [← em, gI_sI_ne (Or.inl (by omega)), gI_sI_eq]
  have b5 : ∀ p j, 47 ≤ p → p ≤ 50 → j < fr.length → gI m1 (d + p) j = gI m (d + p) j := fun p j x y z => by rw [← em, gI_sI_ne (Or.inl (by omega)), gI_sI_ne (Or.inr (by omega)), gI_sI_ne (Or.inr (by omega)), gI_sI_ne (Or.inr (by omega)), gI_sI_ne (Or.inr (by omega))]
  have b6 : gI m1 d 64 = nI (fr.length + 1) := by rw [← em, gI_sI_eq]
  refine ⟨m1, ?_, ⟨a1.kept o, a2.kept (fun i _ _ => fi _ (by omega) (by omega)), a3.kept (gi _ (by omega)) (fi _ (by omega) (by omega)), ⟨by rw [b6, List.length_cons], ⟨⟨b1, b2, ?_⟩, a4.2.kept b5⟩⟩, ⟨by rw [gi _ (by omega)]; exact a5.1, a5.2.kept (fun j _ => congrFun (fi _ (by omega) (by omega)) j)⟩, by rw [gi _ (by omega)]; exact a6, by rw [gi _ (by omega)]; exact a7⟩, o⟩
  · rw [← em]
    unfold M_X11_pushFrame
    have g64 : ∀ (mm : MM) (p k : Nat) (v : Int32), 0 < p → gI (sI mm (d + p) k v) d 64 = gI mm d 64 := fun mm p k v hp => gI_sI_ne (Or.inl (by omega))
    rw [nb_e (mr_65 a1.1), mz_65 a1.1, a4.1, ib_n hl (by omega), nI_clamp (by omega), nb_e (show gR (sI m (d + 47) fr.length (nI e)) d 66 = some (d + 48) from mr_66 a1.1), mz_66 a1.1, g64 _ _ _ _ (by omega), a4.1, ib_n hl (by omega), nI_clamp (by omega)]
    rw [nb_e (show gR (sI (sI m (d + 47) fr.length (nI e)) (d + 48) fr.length (nI c)) d 67 = some (d + 49) from mr_67 a1.1), mz_67 a1.1, g64 _ _ _ _ (by omega), g64 _ _ _ _ (by omega), a4.1, ib_n hl (by omega), nI_clamp (by omega)]
    rw [nb_e (show gR (sI (sI (sI m (d + 47) fr.length (nI e)) (d + 48) fr.length (nI c)) (d + 49) fr.length x3) d 68 = some (d + 50) from mr_68 a1.1), mz_68 a1.1, g64 _ _ _ _ (by omega), g64 _ _ _ _ (by omega), g64 _ _ _ _ (by omega), a4.1, ib_n hl (by omega), nI_clamp (by omega), g64 _ _ _ _ (by omega), g64 _ _ _ _ (by omega), g64 _ _ _ _ (by omega), g64 _ _ _ _ (by omega), a4.1, nI_1]
  · revert hy
    cases y with
    | none => intro hy; dsimp only at hy ⊢; rw [b3]; exact hy
    | some x => intro hy; dsimp only at hy ⊢; rw [b3, b4]; exact hy
/-- a write into one enumeration's cells -/
theorem RC.enm {G : GG} {m m1 : MM} {d tt e : Nat} {B : Nat → Int32} {K : List Ko} {P : List Enm} {g g1 : Sg} {fr : List Fr} {st : List Int32} {ca : Nat} {fc : Int32} (h : RC G m d tt B K P g fr st ca fc) (o : OMr m m1 d) (hf : ∀ k, gI m1 d k = gI m d k) (ha : ∀ i, 46 ≤ i → i ≤ 51 → m1.1 (d + i) = m.1 (d + i)) (ho : ∀ x X, x ≠ e → P[x]? = some X → gI m1 (d + 42) x = gI m (d + 42) x ∧ gI m1 (d + 45) x = gI m (d + 45) x ∧ (∀ c, c < 12 → gI m1 (d + 43) (12 * x + c) = gI m (d + 43) (12 * x + c)) ∧ ∀ i, i < 6 → gI m1 (d + 44) (6 * x + i) = gI m (d + 44) (6 * x + i)) (hP : PB P) (hs : ∀ x, x ≠ e → same x g g1) (htr : g1.2.2.2.2 = g.2.2.2.2) (h1 : ∀ E, P[e]? = some E → gI m1 (d + 42) e = nI (g1.1 e) ∧ (g1.1 e = 3 → gI m1 (d + 45) e = nI (g1.2.1 e)) ∧ (∀ c, c < E.2.1.length → (g1.1 e = 1 ∨ (g1.1 e = 3 ∧ c < g1.2.1 e)) → gI m1 (d + 43) (12 * e + c) = g1.2.2.1 e c) ∧ ∀ i q, (fls E.2.2)[i]? = some q → q.1 = 7 → (g1.1 e = 1 ∨ (g1.1 e = 3 ∧ E.2.1.length + i < g1.2.1 e)) → gI m1 (d + 44) (6 * e + i) = g1.2.2.2.1 e i) : RC G m1 d tt B K P g1 fr st ca fc := by
  obtain ⟨a1, a2, a3, a4, a5, a6, a7⟩ := h
  refine ⟨a1.kept o, fun x X hX => ?_, ?_, ⟨by rw [hf]; exact a4.1, a4.2.kept (fun p j x y _ => congrFun (ha p (by omega) (by omega)) j)⟩, ⟨by rw [hf]; exact a5.1, a5.2.kept (fun j _ => congrFun (ha 51 (by omega) (by omega)) j)⟩, by rw [hf]; exact a6, by rw [hf]; exact a7⟩
  · by_cases ex : x = e
    · subst ex
      exact h1 X hX
    · obtain ⟨b1, b2, b3, b4⟩ := a2 x X hX
      obtain ⟨o1, o2, o3, o4⟩ := ho x X ex hX
      obtain ⟨s1, s2, s3, s4⟩ := hs x ex
      obtain ⟨p1, p2, p3, p4, p5, -⟩ := pb_en hP hX
      rw [s1, s2]
      refine ⟨by rw [o1]; exact b1, fun z => by rw [o2]; exact b2 z, fun c hc z => by rw [o3 c (by omega), s3]; exact b3 c hc z, fun i q hq h7 z => ?_⟩
      have := get_lt hq
      rw [o4 i (by omega), s4]
      exact b4 i q hq h7 z
  · rw [htr]
    exact a3.kept (hf 61) (ha 46 (by omega) (by omega))
