/-! ===== L2: the reference's reading: what it may change, what it holds ===== -/
def hsz (o : Nat) : Nat := if o = 3 then 1 else if o ≤ 10 then 8 else if o ≤ 14 then 96 else if o ≤ 18 then 64 else if o ≤ 23 then 48 else if o = 24 then 1 else if o ≤ 29 then 520 else if o = 30 then 1 else if o ≤ 37 then 2100 else if o = 38 then 8 else 2100
/-- reading an exp changes these alone: the half of the acts, the pile, the fields of reading -/
def isAo (o : Nat) : Prop := 30 ≤ o ∧ o ≤ 40 ∧ o ≠ 38
def OE (m m1 : MM) (d tt : Nat) : Prop := m1.2.1 = m.2.1 ∧ m1.2.2 = m.2.2 ∧ (∀ a, a < d ∨ d + 41 < a ∨ (d < a ∧ a < d + 30) ∨ a = d + 38 → m1.1 a = m.1 a) ∧ (∀ k, k < 41 ∨ 53 < k ∨ k = 48 → gI m1 d k = gI m d k) ∧ ∀ o, isAo o → ∀ j, j < hsz o * tt ∨ hsz o * tt + hsz o ≤ j → gI m1 (d + o) j = gI m (d + o) j
theorem OE.rf {m : MM} {d tt : Nat} : OE m m d tt := ⟨rfl, rfl, fun _ _ => rfl, fun _ _ => rfl, fun _ _ _ _ => rfl⟩
theorem OE.tr {m m1 m2 : MM} {d tt : Nat} (h : OE m m1 d tt) (h2 : OE m1 m2 d tt) : OE m m2 d tt := by
  obtain ⟨a1, a2, a3, a4, a5⟩ := h
  obtain ⟨b1, b2, b3, b4, b5⟩ := h2
  exact ⟨b1.trans a1, b2.trans a2, fun a ha => (b3 a ha).trans (a3 a ha), fun k hk => (b4 k hk).trans (a4 k hk), fun o h1 j hj => (b5 o h1 j hj).trans (a5 o h1 j hj)⟩
theorem OE.f {m : MM} {d tt k : Nat} {v : Int32} (hk : 41 ≤ k) (hk2 : k ≤ 53) (hk3 : k ≠ 48) : OE m (sI m d k v) d tt := by
  refine ⟨rfl, rfl, fun a ha => (sI_off (by omega)).1, fun j hj => gI_sI_ne (Or.inr (by omega)), fun o h1 j hj => gI_sI_ne (Or.inl (by unfold isAo at h1; omega))⟩
theorem OE.a {m : MM} {d tt o k : Nat} {v : Int32} (h1 : isAo o) (h3 : hsz o * tt ≤ k) (h4 : k < hsz o * tt + hsz o) : OE m (sI m (d + o) k v) d tt := by
  have h1' := h1
  unfold isAo at h1'
  refine ⟨rfl, rfl, fun a ha => (sI_off (by omega)).1, fun j hj => gI_sI_ne (Or.inl (by omega)), fun o' q1 j hj => ?_⟩
  by_cases q : o' = o
  · subst q
    exact gI_sI_ne (Or.inr (by omega))
  · exact gI_sI_ne (Or.inl (by omega))
theorem OE.x {m : MM} {d tt k : Nat} {v : Int32} : OE m (sI m (d + 41) k v) d tt := by
  refine ⟨rfl, rfl, fun a ha => (sI_off (by omega)).1, fun j hj => gI_sI_ne (Or.inl (by omega)), fun o' q1 j hj => gI_sI_ne (Or.inl (by unfold isAo at q1; omega))⟩
theorem OM.oh {m m1 : MM} {d tt : Nat} {S : List Nat} (h : OM m m1 d S []) (hS : ∀ k ∈ S, 41 ≤ k ∧ k ≤ 53 ∧ k ≠ 48) : OE m m1 d tt := by
  obtain ⟨a1, a2, a3, a4⟩ := h
  refine ⟨a1, a2, fun a ha => a3 a (by omega) (fun o ho => by simp at ho), fun k hk => a4 k (fun z => by have := hS k z; omega), fun o h1 j _ => congrFun (a3 (d + o) (by unfold isAo at h1; omega) (fun o ho => by simp at ho)) j⟩
theorem LM.oh {G : GG} {m m1 : MM} {d tt : Nat} (h : LM G m d) (o : OE m m1 d tt) : LM G m1 d := fun s hs => by
  obtain ⟨h1, h2⟩ := h s hs
  exact ⟨by rw [← h1]; show m1.2.2 d s = m.2.2 d s; rw [o.2.1], h2⟩
theorem TM.oh {m m1 : MM} {d tt len : Nat} {B : Nat → Int32} (h : TM m d tt len B) (o : OE m m1 d tt) : TM m1 d tt len B := by
  obtain ⟨a1, a2, a3, a4, a5⟩ := h
  exact ⟨by rw [o.2.2.2.1 _ (by omega)]; exact a1, a2, by rw [o.2.2.2.1 _ (by omega)]; exact a3, a4, fun i hi => by rw [← a5 i hi]; exact congrFun (o.2.2.1 (d + 2) (by omega)) _⟩
def acd (x : Nat) : Nat := if x = 7 then 11 else if 8 ≤ x then x - 1 else x
def whr (so : Nat) : Nat := if so = 2 then 1 else if so = 1 then 2 else 0
/-- one act of the reference -/
def AQ (m : MM) (d tt : Nat) (B : Nat → Int32) (j : Nat) (q : Ko) : Prop := gI m (d + 31) (2100 * tt + j) = nI (acd q.1.1) ∧ (q.1.1 = 1 → gI m (d + 32) (2100 * tt + j) = nI q.1.2.2.2) ∧ (2 ≤ q.1.1 → q.1.1 ≤ 6 → gI m (d + 34) (2100 * tt + j) = nI q.1.2.1) ∧ (q.1.1 = 2 ∨ q.1.1 = 3 → gI m (d + 35) (2100 * tt + j) = nI (nl B q.1.2.1)) ∧ (q.1.1 = 3 → gI m (d + 36) (2100 * tt + j) = nI q.1.2.2.1 ∧ gI m (d + 37) (2100 * tt + j) = nI (nl B q.1.2.2.1)) ∧ gI m (d + 39) (2100 * tt + j) = nI (whr q.2.2.1) ∧ gI m (d + 40) (2100 * tt + j) = nI (8 * tt + q.2.1)
def RA (m : MM) (d tt : Nat) (B : Nat → Int32) (A : List Ko) : Prop := gI m (d + 30) tt = nI A.length ∧ ∀ j q, A[j]? = some q → AQ m d tt B j q
theorem AQ.kept {m m1 : MM} {d tt : Nat} {B : Nat → Int32} {j : Nat} {q : Ko} (h : AQ m d tt B j q) (o : ∀ i, 31 ≤ i → i ≤ 40 → i ≠ 38 → gI m1 (d + i) (2100 * tt + j) = gI m (d + i) (2100 * tt + j)) : AQ m1 d tt B j q := by
  obtain ⟨a1, a2, a3, a4, a5, a6, a7⟩ := h
  exact ⟨by rw [o 31 (by omega) (by omega) (by omega)]; exact a1, fun z => by rw [o 32 (by omega) (by omega) (by omega)]; exact a2 z, fun z y => by rw [o 34 (by omega) (by omega) (by omega)]; exact a3 z y, fun z => by rw [o 35 (by omega) (by omega) (by omega)]; exact a4 z, fun z => ⟨by rw [o 36 (by omega) (by omega) (by omega)]; exact (a5 z).1, by rw [o 37 (by omega) (by omega) (by omega)]; exact (a5 z).2⟩, by rw [o 39 (by omega) (by omega) (by omega)]; exact a6, by rw [o 40 (by omega) (by omega) (by omega)]; exact a7⟩
theorem RA.kept {m m1 : MM} {d tt : Nat} {B : Nat → Int32} {A : List Ko} (h : RA m d tt B A) (o : ∀ i, 30 ≤ i → i ≤ 40 → i ≠ 38 → m1.1 (d + i) = m.1 (d + i)) : RA m1 d tt B A :=
  ⟨by rw [← h.1]; exact congrFun (o 30 (by omega) (by omega) (by omega)) _, fun j q hq => (h.2 j q hq).kept (fun i i1 i2 i3 => congrFun (o i (by omega) i2 i3) _)⟩
def RAF (m : MM) (d tt : Nat) (B : Nat → Int32) (A : List Ko) (F : Option Nat) : Prop := gI m (d + 30) tt = nI A.length ∧ (F = none → ∀ j q, A[j]? = some q → AQ m d tt B j q)
theorem RAF.kept {m m1 : MM} {d tt : Nat} {B : Nat → Int32} {A : List Ko} {F : Option Nat} (h : RAF m d tt B A F) (o : ∀ i, 30 ≤ i → i ≤ 40 → i ≠ 38 → m1.1 (d + i) = m.1 (d + i)) : RAF m1 d tt B A F :=
  ⟨by rw [← h.1]; exact congrFun (o 30 (by omega) (by omega) (by omega)) _, fun hF j q hq => (h.2 hF j q hq).kept (fun i i1 i2 i3 => congrFun (o i (by omega) i2 i3) _)⟩
theorem RAF.bad {m : MM} {d tt p : Nat} {B : Nat → Int32} {A : List Ko} {F : Option Nat} (h : RAF m d tt B A F) : RAF m d tt B A (some p) := ⟨h.1, fun z => by cases z⟩
def rop (x : Nat) : Nat := if x = 0 then 12 else acd x
def PM (m : MM) (a : Nat) : List Nat → Prop
  | [] => True
  | x :: l => gI m a l.length = nI (rop x) ∧ PM m a l
theorem PM.kept {m m1 : MM} {a : Nat} : ∀ {st : List Nat}, PM m a st → (∀ j, j < st.length → gI m1 a j = gI m a j) → PM m1 a st := by
  intro st
  induction st with
  | nil => intro _ _; trivial
  | cons x l ih =>
    intro h hk
    exact ⟨by rw [hk l.length (by simp)]; exact h.1, ih h.2 (fun j hj => hk j (by rw [List.length_cons]; omega))⟩
/-- the tokens that the reference has yet to read -/
def TL (m : MM) (d : Nat) (B : Nat → Int32) (len : Nat) (l : List Tok) : Prop := ∃ c rs p1, l = c :: rs ∧ MT m d B c ∧ gI m d 41 = nI p1 ∧ p1 ≤ len ∧ (c.1 ≠ 130 → tks B len p1 = rs) ∧ ∀ t ∈ l, t.1 < 256 ∧ t.2.1 < 4096 ∧ t.2.2 < 1000000000
theorem TL.kept {m m1 : MM} {d len : Nat} {B : Nat → Int32} {l : List Tok} (h : TL m d B len l) (o : ∀ k, 41 ≤ k → k ≤ 45 → gI m1 d k = gI m d k) : TL m1 d B len l := by
  obtain ⟨c, rs, p1, h1, ⟨a1, a2, a3, a4, a5⟩, h3, h4, h5, h6⟩ := h
  exact ⟨c, rs, p1, h1, ⟨by rw [o _ (by omega) (by omega)]; exact a1, by rw [o _ (by omega) (by omega)]; exact a2, fun q => by rw [o _ (by omega) (by omega)]; exact a3 q, fun q => by rw [o _ (by omega) (by omega)]; exact a4 q, fun q => by rw [o _ (by omega) (by omega)]; exact a5 q⟩, by rw [o _ (by omega) (by omega)]; exact h3, h4, h5, h6⟩
/-- the fault so far: none, or a text that is none, with its place -/
def FO (m : MM) (d : Nat) (F : Option Nat) : Prop := match F with
  | none => gI m d 46 = nI 0
  | some p => gI m d 46 = nI 1 ∧ gI m d 47 = nI p
theorem FO.kept {m m1 : MM} {d : Nat} {F : Option Nat} (h : FO m d F) (o : ∀ k, 46 ≤ k → k ≤ 47 → gI m1 d k = gI m d k) : FO m1 d F := by
  cases F with
  | none => show gI m1 d 46 = nI 0; rw [o _ (by omega) (by omega)]; exact h
  | some p => exact ⟨by rw [o _ (by omega) (by omega)]; exact h.1, by rw [o _ (by omega) (by omega)]; exact h.2⟩
/-- where the reference stands in an exp -/
def RE (G : GG) (m : MM) (d tt len : Nat) (B : Nat → Int32) (e : Nat) (A : List Ko) (st : List Nat) (l : List Tok) (F : Option Nat) : Prop := LM G m d ∧ TM m d tt len B ∧ By B len ∧ TL m d B len l ∧ RAF m d tt B A F ∧ gI m d 53 = nI st.length ∧ PM m (d + 41) st ∧ gI m d 48 = nI (8 * tt + e) ∧ FO m d F ∧ A.length + st.length + l.length ≤ 2001 ∧ e < 8
theorem mm_emit {G : GG} {m : MM} {d tt n : Nat} {w a : Int32} (hL : LM G m d) (h4 : gI m d 4 = nI tt) (ht : tt ≤ 1) (hn : gI m (d + 30) tt = nI n) (hn2 : n < 2100) : M_X11_emit G d w a m = some ((), sI (sI (sI (sI (sI (sI m (d + 31) (2100 * tt + n) w) (d + 32) (2100 * tt + n) a) (d + 34) (2100 * tt + n) (gI m d 42)) (d + 39) (2100 * tt + n) 0) (d + 40) (2100 * tt + n) (gI m d 48)) (d + 30) tt (nI (n + 1))) := by
  have e1 : (2100 : Int32) * nI tt + nI n = nI (2100 * tt + n) := by rw [show (2100 : Int32) = nI 2100 from rfl, pk_mul, nI_add]
  have c1 : (nI (2100 * tt + n)).toNatClampNeg = 2100 * tt + n := nI_clamp (by omega)
  have c2 : (nI tt).toNatClampNeg = tt := nI_clamp (by omega)
  unfold M_X11_emit
  rw [nb_e (mr_33 hL), mz_33 hL, h4, ib_n (by omega) (by omega), nb_e (mr_34 hL), mz_34 hL]
  simp only [c2, hn, e1, c1, gR_sI]
  rw [ib_n (by omega) (by omega), nb_e (mr_35 hL), mz_35 hL, ib_n (by omega) (by omega), nb_e (mr_37 hL), mz_37 hL, ib_n (by omega) (by omega), nb_e (mr_50 hL), mz_50 hL, ib_n (by omega) (by omega), nb_e (mr_51 hL), mz_51 hL, ib_n (by omega) (by omega), nb_e (mr_33 hL), mz_33 hL]
  have g : ∀ (mz : MM) (o k j : Nat) (v : Int32), gI (sI mz (d + (o + 1)) k v) d j = gI mz d j := fun mz o k j v => gI_sI_ne (Or.inl (by omega))
  have g30 : ∀ (mz : MM) (o k j : Nat) (v : Int32), gI (sI mz (d + (o + 31)) k v) (d + 30) j = gI mz (d + 30) j := fun mz o k j v => gI_sI_ne (Or.inl (by omega))
  simp only [g _ 30, g _ 31, g _ 33, g _ 38, g _ 39, h4, c2, g30 _ 0, g30 _ 1, g30 _ 3, g30 _ 8, g30 _ 9, hn, nI_1]
  rw [ib_n (by omega) (by omega), ib_n (by omega) (by omega)]
theorem RE.good {G : GG} {m : MM} {d tt len e : Nat} {B : Nat → Int32} {A : List Ko} {st : List Nat} {l : List Tok} {F : Option Nat} (h : RE G m d tt len B e A st l F) : M_X11_isGood G d m = some (F.isNone, m) := by
  have hF := h.2.2.2.2.2.2.2.2.1
  unfold M_X11_isGood
  cases F with
  | none => rw [show gI m d 46 = nI 0 from hF, if_neg (by decide)]; rfl
  | some p => rw [show gI m d 46 = nI 1 from hF.1, if_pos (by decide)]; rfl
theorem RE.gT {G : GG} {m : MM} {d tt len e : Nat} {B : Nat → Int32} {A : List Ko} {st : List Nat} {l : List Tok} (h : RE G m d tt len B e A st l none) : M_X11_isGood G d m = some (true, m) := h.good
theorem RE.gF {G : GG} {m : MM} {d tt len e p : Nat} {B : Nat → Int32} {A : List Ko} {st : List Nat} {l : List Tok} (h : RE G m d tt len B e A st l (some p)) : M_X11_isGood G d m = some (false, m) := h.good
theorem tc_sg {k : Nat} (hk : k < 256) : nI (tc k) = 3 ↔ k < 128 := by
  constructor
  · intro h
    by_cases q : k < 128
    · exact q
    · exfalso
      revert h
      unfold tc
      rw [if_neg q]
      repeat' split
      all_goals (intro h; first | exact absurd h (by decide) | exact absurd ((nI_eq (show _ < 2 ^ 31 by omega) (show 3 < 2 ^ 31 by omega)).mp h) (by omega))
  · intro h
    unfold tc
    rw [if_pos h]
    rfl
theorem mm_isAt {G : GG} {m : MM} {d : Nat} {B : Nat → Int32} {c : Tok} {w : Nat} (h : MT m d B c) (hc : c.1 < 256) (hw : w < 128) : M_X11_isAt G d (nI w) m = some (decide (c.1 = w), m) := by
  obtain ⟨a1, a2, a3, a4, a5⟩ := h
  unfold M_X11_isAt
  rw [a2]
  by_cases q : c.1 < 128
  · rw [if_pos ((tc_sg hc).mpr q), a3 q]
    by_cases e : c.1 = w
    · rw [if_pos (by rw [e]), decide_eq_true e]
    · rw [if_neg (fun z => e ((nI_eq (by omega) (by omega)).mp z)), decide_eq_false e]
  · rw [if_neg (fun z => q ((tc_sg hc).mp z)), decide_eq_false (by omega)]
theorem RE.isAt {G : GG} {m : MM} {d tt len e w : Nat} {B : Nat → Int32} {A : List Ko} {st : List Nat} {l : List Tok} {F : Option Nat} (h : RE G m d tt len B e A st l F) (hw : w < 128) : M_X11_isAt G d (nI w) m = some (decide (hd l = w), m) := by
  obtain ⟨c, rs, p1, h1, h2, h3, h4, h5, h6⟩ := h.2.2.2.1
  have := mm_isAt (G := G) h2 (h6 c (by rw [h1]; simp)).1 hw
  rw [this, h1]
  rfl
theorem mm_nextL {G : GG} {m : MM} {d tt len : Nat} {B : Nat → Int32} {l : List Tok} (hB : By B len) (hL : LM G m d) (hT : TM m d tt len B) (h : TL m d B len l) (hh : hd l ≠ 130) : ∃ m1, M_X11_next G d m = some ((), m1) ∧ OM m m1 d [41, 42, 43, 44, 45] [] ∧ TL m1 d B len l.tail ∧ l.tail.length + 1 = l.length := by
  obtain ⟨c, rs, p1, h1, h2, h3, h4, h5, h6⟩ := h
  subst h1
  obtain ⟨m1, p2, c2, rs2, e1, e2, e3, e4, e5, e6, e7, e8⟩ := mm_next hB hL hT h3 h4
  have er := h5 hh
  rw [e3] at er
  refine ⟨m1, e1, e2, ⟨c2, rs2, p2, er.symm, e4, e5, e6, e7, fun t ht => ?_⟩, by simp⟩
  exact h6 t (by simp only [List.mem_cons]; exact Or.inr ht)
theorem RE.next {G : GG} {m : MM} {d tt len e : Nat} {B : Nat → Int32} {A : List Ko} {st : List Nat} {l : List Tok} {F : Option Nat} (h : RE G m d tt len B e A st l F) (hh : hd l ≠ 130) : ∃ m1, M_X11_next G d m = some ((), m1) ∧ RE G m1 d tt len B e A st l.tail F ∧ OM m m1 d [41, 42, 43, 44, 45] [] ∧ A.length + st.length + l.tail.length + 1 ≤ 2001 := by
  obtain ⟨h1, h2, h3, h4, h5, h6, h7, h8, h9, h10, h11⟩ := h
  obtain ⟨m1, e1, e2, e3, e4⟩ := mm_nextL h3 h1 h2 h4 hh
  have oh : OE m m1 d tt := e2.oh (by simp)
  refine ⟨m1, e1, ⟨h1.oh oh, h2.oh oh, h3, e3, h5.kept (fun i _ _ _ => e2.2.2.1 _ (by omega) (by simp)), by rw [e2.I (by decide)]; exact h6, h7.kept (fun j _ => e2.A (by decide) (by simp) j), by rw [e2.I (by decide)]; exact h8, h9.kept (fun k k1 k2 => e2.I (by simp; omega)), by omega, h11⟩, e2, by omega⟩
theorem RE.stop {G : GG} {m : MM} {d tt len e : Nat} {B : Nat → Int32} {A : List Ko} {st : List Nat} {l : List Tok} (h : RE G m d tt len B e A st l none) : ∃ m1, M_X11_stop G d m = some ((), m1) ∧ RE G m1 d tt len B e A st l (some (plc l)) ∧ OM m m1 d [46, 47] [] := by
  have h0 := h
  obtain ⟨h1, h2, h3, h4, h5, h6, h7, h8, h9, h10, h11⟩ := h
  obtain ⟨c, rs, p1, z1, z2, -⟩ := id h4
  unfold M_X11_stop
  rw [bd_e h0.gT, if_pos rfl, gI_sI_ne (Or.inr (by decide)), z2.1]
  have o : OM m (sI (sI m d 46 1) d 47 (nI c.2.1)) d [46, 47] [] := (OM.f.tr OM.f).mono (by simp) (by simp)
  have oh : OE m (sI (sI m d 46 1) d 47 (nI c.2.1)) d tt := o.oh (by simp)
  refine ⟨_, rfl, ⟨h1.oh oh, h2.oh oh, h3, h4.kept (fun k k1 k2 => o.I (by simp; omega)), (h5.kept (fun i _ _ _ => o.2.2.1 _ (by omega) (by simp))).bad, by rw [o.I (by decide)]; exact h6, h7.kept (fun j _ => o.A (by decide) (by simp) j), by rw [o.I (by decide)]; exact h8, ?_, h10, h11⟩, o⟩
  rw [z1]
  exact ⟨by rw [gI_sI_ne (Or.inr (by decide)), gI_sI_eq]; rfl, gI_sI_eq⟩
theorem RE.stop2 {G : GG} {m : MM} {d tt len e p : Nat} {B : Nat → Int32} {A : List Ko} {st : List Nat} {l : List Tok} (h : RE G m d tt len B e A st l (some p)) : M_X11_stop G d m = some ((), m) := by
  unfold M_X11_stop
  rw [bd_e h.good]
  rfl
/-- one more act; what it needs beside its code is told -/
theorem RE.emit {G : GG} {m : MM} {d tt len e c : Nat} {B : Nat → Int32} {A : List Ko} {st1 : List Nat} {l : List Tok} {F : Option Nat} {o : Op} {a : Int32} (h : RE G m d tt len B e A st1 l F) (hb : A.length + 1 + st1.length + l.length ≤ 2001) (h1 : o.1 = 1 → a = nI o.2.2.2) (h2 : 2 ≤ o.1 → o.1 ≤ 6 → plc l = o.2.1) (h3 : o.1 ≠ 2 ∧ o.1 ≠ 3) : ∃ m1, M_X11_emit G d (nI (acd o.1)) a m = some ((), m1) ∧ RE G m1 d tt len B e (A ++ [kox e 0 c o]) st1 l F ∧ OE m m1 d tt ∧ (∀ k, gI m1 d k = gI m d k) ∧ ∀ j, gI m1 (d + 41) j = gI m (d + 41) j := by
  obtain ⟨g1, g2, g3, g4, g5, g6, g7, g8, g9, g10, g11⟩ := h
  have ht := g2.2.1
  rw [mm_emit g1 g2.1 ht g5.1 (by omega)]
  obtain ⟨m1, em⟩ : ∃ m1, sI (sI (sI (sI (sI (sI m (d + 31) (2100 * tt + A.length) (nI (acd o.1))) (d + 32) (2100 * tt + A.length) a) (d + 34) (2100 * tt + A.length) (gI m d 42)) (d + 39) (2100 * tt + A.length) 0) (d + 40) (2100 * tt + A.length) (gI m d 48)) (d + 30) tt (nI (A.length + 1)) = m1 := ⟨_, rfl⟩
  rw [em]
  have hz : ∀ i, 31 ≤ i → i ≤ 40 → i ≠ 38 → hsz i = 2100 := fun i i1 i2 i3 => by
    rcases (show i = 31 ∨ i = 32 ∨ i = 33 ∨ i = 34 ∨ i = 35 ∨ i = 36 ∨ i = 37 ∨ i = 39 ∨ i = 40 by omega) with rfl | rfl | rfl | rfl | rfl | rfl | rfl | rfl | rfl <;> rfl
  have oa : ∀ (mz : MM) (i : Nat) (v : Int32), 31 ≤ i → i ≤ 40 → i ≠ 38 → OE mz (sI mz (d + i) (2100 * tt + A.length) v) d tt := fun mz i v i1 i2 i3 => OE.a ⟨by omega, i2, i3⟩ (by rw [hz i i1 i2 i3]; omega) (by rw [hz i i1 i2 i3]; omega)
  have oh : OE m m1 d tt := by
    rw [← em]
    exact (((((oa _ 31 _ (by omega) (by omega) (by omega)).tr (oa _ 32 _ (by omega) (by omega) (by omega))).tr (oa _ 34 _ (by omega) (by omega) (by omega))).tr (oa _ 39 _ (by omega) (by omega) (by omega))).tr (oa _ 40 _ (by omega) (by omega) (by omega))).tr (OE.a ⟨by omega, by omega, by omega⟩ (by show 1 * tt ≤ tt; omega) (by show tt < 1 * tt + 1; omega))
  have gd : ∀ k, gI m1 d k = gI m d k := fun k => by rw [← em]; simp [gI_sI]
  have g41 : ∀ j, gI m1 (d + 41) j = gI m (d + 41) j := fun j => by rw [← em]; simp [gI_sI]
  have old : ∀ i, 31 ≤ i → i ≤ 40 → ∀ j, j ≠ 2100 * tt + A.length → gI m1 (d + i) j = gI m (d + i) j := fun i i1 i2 j hj => by
    rw [← em]
    simp only [gI_sI]
    have : i ≠ 30 := by omega
    simp [this, hj]
  refine ⟨m1, rfl, ⟨g1.oh oh, g2.oh oh, g3, g4.kept (fun k _ _ => gd k), ⟨?_, fun hF j q hq => ?_⟩, by rw [gd]; exact g6, g7.kept (fun j _ => g41 j), by rw [gd]; exact g8, g9.kept (fun k _ _ => gd k), by rw [List.length_append]; simp; omega, g11⟩, oh, gd, g41⟩
  · rw [← em, gI_sI_eq, List.length_append]; rfl
  · rcases ap_get hq with ⟨j1, j2⟩ | ⟨j1, j2⟩
    · exact (g5.2 hF j q j2).kept (fun i i1 i2 i3 => old i i1 i2 _ (by omega))
    · subst j1
      subst j2
      refine ⟨?_, fun z => ?_, fun z y => ?_, fun z => absurd z (by show ¬ (o.1 = 2 ∨ o.1 = 3); omega), fun z => absurd z (by show ¬ o.1 = 3; omega), ?_, ?_⟩
      · rw [← em]; simp [gI_sI, kox]
      · rw [← em, ← show a = nI (kox e 0 c o).1.2.2.2 from h1 z]; simp [gI_sI]
      · obtain ⟨c', rs, p1, z1, z2, -⟩ := g4
        have e42 : gI m d 42 = nI o.2.1 := by rw [z2.1, ← h2 z y, z1]; rfl
        rw [← em, ← show gI m d 42 = nI (kox e 0 c o).1.2.1 from e42]; simp [gI_sI]
      · rw [← em]; simp [gI_sI]; rfl
      · rw [← em]; simp [gI_sI]; exact g8
