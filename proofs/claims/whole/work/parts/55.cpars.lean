/-! ===== L2: the class's parser: where it stands ===== -/
theorem ff : ¬ (false = true) := by decide
theorem get_app {α : Type} {l : List α} {x : α} : (l ++ [x])[l.length]? = some x := by simp
theorem ec_setArg {m : MM} {en p b v : Nat} {w : Nat} {cs : List Con} {ms : List Mem} (h : EC m en (cs ++ [(p, w, b)]) ms) : EC (sI m (en + 2) cs.length (nI v)) en (cs ++ [(p, v, b)]) ms := by
  obtain ⟨h1, h2, h3, h4, h5, h6, h7, h8, h9, h10, h11, h12⟩ := h
  have o : Off m (sI m (en + 2) cs.length (nI v)) [en + 2] := Off.sI
  have en' : nmL (cs ++ [(p, v, b)]) ms = nmL (cs ++ [(p, w, b)]) ms := by simp [nmL]
  have g0 : ∀ j, gI (sI m (en + 2) cs.length (nI v)) en j = gI m en j := fun j => o.I (by simp) j
  refine ⟨by rw [g0, en']; exact h1, by rw [g0, h2]; simp, by rw [g0]; exact h3, by rw [g0]; exact h4, by rw [g0]; exact h5, by rw [g0]; exact h6, by rw [g0]; exact h7, by rw [g0]; exact h8, fun c q hq => ?_, fun i q hq => ?_, fun i q hq => ?_, fun i q hq => ?_⟩
  · rcases ap_get hq with ⟨a, b'⟩ | ⟨a, b'⟩
    · obtain ⟨c1, c2, c3, c4, c5⟩ := h9 c q (by rw [List.getElem?_append_left a]; exact b')
      exact ⟨by rw [o.I (by simp)]; exact c1, by rw [gI_sI_ne (Or.inr (by omega))]; exact c2, by rw [o.I (by simp)]; exact c3, by rw [o.I (by simp)]; exact c4, fun i hi => by rw [o.I (by simp)]; exact c5 i hi⟩
    · subst a
      subst b'
      obtain ⟨c1, c2, c3, c4, c5⟩ := h9 cs.length _ get_app
      exact ⟨by rw [o.I (by simp)]; exact c1, gI_sI_eq, by rw [o.I (by simp)]; exact c3, by rw [o.I (by simp)]; exact c4, fun i hi => by rw [o.I (by simp)]; exact c5 i hi⟩
  · obtain ⟨c1, c2⟩ := h10 i q hq
    exact ⟨by rw [o.I (by simp)]; exact c1, by rw [o.I (by simp)]; exact c2⟩
  · obtain ⟨c1, c2, c3⟩ := h11 i q hq
    exact ⟨by rw [o.I (by simp)]; exact c1, by rw [o.I (by simp)]; exact c2, by rw [o.I (by simp)]; exact c3⟩
  · rw [en'] at hq
    rw [o.I (by simp)]; exact h12 i q hq
theorem ec_setBody {m : MM} {en p b v : Nat} {w : Int32} {cs : List Con} {ms : List Mem} (h : EC m en (cs ++ [(p, v, b)]) ms) (hw : w = nI 1) : EC (sI m (en + 3) cs.length w) en (cs ++ [(p, v, 1)]) ms := by
  subst hw
  obtain ⟨h1, h2, h3, h4, h5, h6, h7, h8, h9, h10, h11, h12⟩ := h
  have o : Off m (sI m (en + 3) cs.length (nI 1)) [en + 3] := Off.sI
  have en' : nmL (cs ++ [(p, v, 1)]) ms = nmL (cs ++ [(p, v, b)]) ms := by simp [nmL]
  have g0 : ∀ j, gI (sI m (en + 3) cs.length (nI 1)) en j = gI m en j := fun j => o.I (by simp) j
  refine ⟨by rw [g0, en']; exact h1, by rw [g0, h2]; simp, by rw [g0]; exact h3, by rw [g0]; exact h4, by rw [g0]; exact h5, by rw [g0]; exact h6, by rw [g0]; exact h7, by rw [g0]; exact h8, fun c q hq => ?_, fun i q hq => ?_, fun i q hq => ?_, fun i q hq => ?_⟩
  · rcases ap_get hq with ⟨a, b'⟩ | ⟨a, b'⟩
    · obtain ⟨c1, c2, c3, c4, c5⟩ := h9 c q (by rw [List.getElem?_append_left a]; exact b')
      exact ⟨by rw [o.I (by simp)]; exact c1, by rw [o.I (by simp)]; exact c2, by rw [gI_sI_ne (Or.inr (by omega))]; exact c3, by rw [o.I (by simp)]; exact c4, fun i hi => by rw [o.I (by simp)]; exact c5 i hi⟩
    · subst a
      subst b'
      obtain ⟨c1, c2, c3, c4, c5⟩ := h9 cs.length _ get_app
      exact ⟨by rw [o.I (by simp)]; exact c1, by rw [o.I (by simp)]; exact c2, gI_sI_eq, by rw [o.I (by simp)]; exact c4, fun i hi => by rw [o.I (by simp)]; exact c5 i hi⟩
  · obtain ⟨c1, c2⟩ := h10 i q hq
    exact ⟨by rw [o.I (by simp)]; exact c1, by rw [o.I (by simp)]; exact c2⟩
  · obtain ⟨c1, c2, c3⟩ := h11 i q hq
    exact ⟨by rw [o.I (by simp)]; exact c1, by rw [o.I (by simp)]; exact c2, by rw [o.I (by simp)]; exact c3⟩
  · rw [en'] at hq
    rw [o.I (by simp)]; exact h12 i q hq
theorem ec_setConst {m : MM} {en p v : Nat} {cs : List Con} {ms : List Mem} (h : EC m en cs (ms ++ [(8, p, 0, 0)])) : EC (sI m (en + 9) (fls ms).length (nI v)) en cs (ms ++ [(8, p, v, 0)]) := by
  have n5 : ∀ w, ((8, p, w, 0) : Mem).1 ≠ 5 ∧ ((8, p, w, 0) : Mem).1 ≠ 6 := fun w => by simp
  have n9 : ∀ w, ((8, p, w, 0) : Mem).1 ≠ 9 := fun w => by simp
  have n7 : ∀ w, ((8, p, w, 0) : Mem).1 ≠ 7 := fun w => by simp
  have i8 : ∀ w, ((8, p, w, 0) : Mem).1 = 7 ∨ ((8, p, w, 0) : Mem).1 = 8 := fun w => by simp
  obtain ⟨h1, h2, h3, h4, h5, h6, h7, h8, h9, h10, h11, h12⟩ := h
  have o : Off m (sI m (en + 9) (fls ms).length (nI v)) [en + 9] := Off.sI
  have g0 : ∀ j, gI (sI m (en + 9) (fls ms).length (nI v)) en j = gI m en j := fun j => o.I (by simp) j
  rw [nmL_in (n9 0)] at h1 h12
  rw [mbs_out (n5 0)] at h3
  rw [fls_in (i8 0), List.length_append] at h4
  rw [wks_out (n7 0)] at h5
  rw [mkC_out (n9 0)] at h6
  refine ⟨by rw [g0, nmL_in (n9 v)]; exact h1, by rw [g0]; exact h2, by rw [g0, mbs_out (n5 v)]; exact h3, by rw [g0, fls_in (i8 v), List.length_append]; exact h4, by rw [g0, wks_out (n7 v)]; exact h5, by rw [g0, mkC_out (n9 v)]; exact h6, by rw [g0]; exact h7, by rw [g0]; exact h8, fun c q hq => ?_, fun i q hq => ?_, fun i q hq => ?_, fun i q hq => ?_⟩
  · obtain ⟨c1, c2, c3, c4, c5⟩ := h9 c q hq
    exact ⟨by rw [o.I (by simp)]; exact c1, by rw [o.I (by simp)]; exact c2, by rw [o.I (by simp)]; exact c3, by rw [o.I (by simp)]; exact c4, fun i hi => by rw [o.I (by simp)]; exact c5 i hi⟩
  · rw [mbs_out (n5 v)] at hq
    obtain ⟨c1, c2⟩ := h10 i q (by rw [mbs_out (n5 0)]; exact hq)
    exact ⟨by rw [o.I (by simp)]; exact c1, by rw [o.I (by simp)]; exact c2⟩
  · rw [fls_in (i8 v)] at hq
    rcases ap_get hq with ⟨a, b'⟩ | ⟨a, b'⟩
    · obtain ⟨c1, c2, c3⟩ := h11 i q (by rw [fls_in (i8 0), List.getElem?_append_left a]; exact b')
      exact ⟨by rw [o.I (by simp)]; exact c1, by rw [o.I (by simp)]; exact c2, by rw [gI_sI_ne (Or.inr (by omega))]; exact c3⟩
    · subst a
      subst b'
      obtain ⟨c1, c2, c3⟩ := h11 (fls ms).length (8, p, 0, 0) (by rw [fls_in (i8 0)]; exact get_app)
      exact ⟨by rw [o.I (by simp)]; exact c1, by rw [o.I (by simp)]; exact c2, by rw [gI_sI_eq]; simp⟩
  · rw [nmL_in (n9 v)] at hq
    rw [o.I (by simp)]; exact h12 i q hq
theorem ec_setMaker {m : MM} {en p a : Nat} {cs : List Con} {ms : List Mem} (h : EC m en cs ms) : EC (sI m en 16 (nI a)) en cs (ms ++ [(9, p, 0, a)]) := by
  have n5 : ((9, p, 0, a) : Mem).1 ≠ 5 ∧ ((9, p, 0, a) : Mem).1 ≠ 6 := by simp
  have n7 : ((9, p, 0, a) : Mem).1 ≠ 7 ∧ ((9, p, 0, a) : Mem).1 ≠ 8 := by simp
  have i9 : ((9, p, 0, a) : Mem).1 = 9 := rfl
  obtain ⟨h1, h2, h3, h4, h5, h6, h7, h8, h9, h10, h11, h12⟩ := h
  have o : Off m (sI m en 16 (nI a)) [en] := Off.sI
  have g0 : ∀ j, j ≠ 16 → gI (sI m en 16 (nI a)) en j = gI m en j := fun j hj => gI_sI_ne (Or.inr hj)
  refine ⟨by rw [g0 _ (by decide), nmL_out i9]; exact h1, by rw [g0 _ (by decide)]; exact h2, by rw [g0 _ (by decide), mbs_out n5]; exact h3, by rw [g0 _ (by decide), fls_out n7]; exact h4, by rw [g0 _ (by decide), wks_out n7.1]; exact h5, by rw [gI_sI_eq, mkC_in i9], by rw [g0 _ (by decide)]; exact h7, by rw [g0 _ (by decide)]; exact h8, fun c q hq => ?_, fun i q hq => ?_, fun i q hq => ?_, fun i q hq => ?_⟩
  · obtain ⟨c1, c2, c3, c4, c5⟩ := h9 c q hq
    exact ⟨by rw [o.I (by simp)]; exact c1, by rw [o.I (by simp)]; exact c2, by rw [o.I (by simp)]; exact c3, by rw [o.I (by simp)]; exact c4, fun i hi => by rw [o.I (by simp)]; exact c5 i hi⟩
  · rw [mbs_out n5] at hq
    obtain ⟨c1, c2⟩ := h10 i q hq
    exact ⟨by rw [o.I (by simp)]; exact c1, by rw [o.I (by simp)]; exact c2⟩
  · rw [fls_out n7] at hq
    obtain ⟨c1, c2, c3⟩ := h11 i q hq
    exact ⟨by rw [o.I (by simp)]; exact c1, by rw [o.I (by simp)]; exact c2, by rw [o.I (by simp)]; exact c3⟩
  · rw [nmL_out i9] at hq
    rw [o.I (by simp)]; exact h12 i q hq
def LPg (G : GG) (m : MM) (pg : Nat) : Prop := gR m pg 0 = some (pg + 1) ∧ gR m pg 1 = some (pg + 2) ∧ G.2.2 (pg + 1) = 8 ∧ G.2.2 (pg + 2) = 8 ∧ ∀ e, e < 8 → gR m (pg + 1) e = some (pg + 4 + 12 * e) ∧ LE G m (pg + 4 + 12 * e)
theorem LPg.eq {G : GG} {m m1 : MM} {pg : Nat} (h : LPg G m pg) (e : m1.2.2 = m.2.2) : LPg G m1 pg := by
  have g : ∀ a j, gR m1 a j = gR m a j := fun a j => by show m1.2.2 a j = m.2.2 a j; rw [e]
  exact ⟨by rw [g]; exact h.1, by rw [g]; exact h.2.1, h.2.2.1, h.2.2.2.1, fun i hi => ⟨by rw [g]; exact (h.2.2.2.2 i hi).1, (h.2.2.2.2 i hi).2.eq e⟩⟩
def PN (n pg : Nat) : Prop := pg = n + 1 ∨ pg = n + 101
theorem PN.dx {n pg : Nat} (h : PN n pg) : DX (n + 207) (n + 205) pg (n + 203) := ⟨n, rfl, rfl, rfl, h⟩
def PC (G : GG) (m : MM) (n pg : Nat) : Prop := gR m (n + 204) 0 = some (n + 205) ∧ gR m (n + 204) 1 = some (n + 207) ∧ gR m (n + 204) 2 = some pg ∧ gR m (n + 204) 3 = some (n + 203) ∧ XB G m (n + 207) (n + 205) pg (n + 203)
theorem PC.eq {G : GG} {m m1 : MM} {n pg : Nat} (h : PC G m n pg) (e : m1.2.2 = m.2.2) : PC G m1 n pg := by
  have g : ∀ a j, gR m1 a j = gR m a j := fun a j => by show m1.2.2 a j = m.2.2 a j; rw [e]
  obtain ⟨h1, h2, h3, h4, x0, x1, x2, x3, x4⟩ := h
  exact ⟨by rw [g]; exact h1, by rw [g]; exact h2, by rw [g]; exact h3, by rw [g]; exact h4, by rw [g]; exact x0, x1, by rw [g]; exact x2, by rw [g]; exact x3, by rw [g]; exact x4⟩
def RP (m : MM) (pg : Nat) (P : List Enm) : Prop := gI m pg 3 = nI P.length ∧ ∀ e E, P[e]? = some E → gI m (pg + 2) e = nI E.1 ∧ EC m (pg + 4 + 12 * e) E.2.1 E.2.2
def PB (P : List Enm) : Prop := P.length ≤ 8 ∧ ∀ E ∈ P, E.1 < 4096 ∧ EB E.2.1 E.2.2
def bdK (K : List Ko) (q : Nat × Nat) : Prop := ∃ o ∈ K, badB o.2.2.1 o.1 = true ∧ q = (6, o.1.2.1)
def mkD (ms : List Mem) : List (Nat × Nat) := (mks ms).tail.map (fun r => (2, r.2.1))
def FM (m : MM) (fa : Nat) (K : List Ko) (P : List Enm) : Prop := ∃ N : List (Nat × Nat), FS m fa (N.foldl ntF (0, 0)) ∧ ∀ q, q ∈ N ↔ (bdK K q ∨ ∃ E ∈ P, q ∈ mkD E.2.2)
theorem FM.kept {m m1 : MM} {fa : Nat} {K : List Ko} {P : List Enm} {l : List Nat} (h : FM m fa K P) (o : Off m m1 l) (h1 : fa ∉ l) : FM m1 fa K P := by
  obtain ⟨N, a, b⟩ := h
  exact ⟨N, a.kept o h1, b⟩
def PS (G : GG) (m : MM) (n pg : Nat) (L : List Tok) (k : Nat) (K : List Ko) (P : List Enm) : Prop := PC G m n pg ∧ LPg G m pg ∧ TK G m (n + 205) L k ∧ CO G m pg (K.map encK) ∧ RP m pg P ∧ PB P ∧ FM m (n + 203) K P ∧ K.length ≤ k ∧ k < L.length
def PW (G : GG) (m : MM) (n : Nat) (L : List Tok) (k : Nat) : Prop := gR m (n + 204) 0 = some (n + 205) ∧ gR m (n + 204) 3 = some (n + 203) ∧ TK G m (n + 205) L k
theorem PS.w {G : GG} {m : MM} {n pg : Nat} {L : List Tok} {k : Nat} {K : List Ko} {P : List Enm} (h : PS G m n pg L k K P) : PW G m n L k := ⟨h.1.1, h.1.2.2.2.1, h.2.2.1⟩
def OW (m m1 : MM) (n pg : Nat) : Prop := ∀ a, a < pg ∨ pg + 100 ≤ a → a < n + 203 ∨ n + 209 ≤ a → m1.1 a = m.1 a ∧ m1.2.1 a = m.2.1 a ∧ m1.2.2 a = m.2.2 a
theorem OW.rf {m : MM} {n pg : Nat} : OW m m n pg := fun _ _ _ => ⟨rfl, rfl, rfl⟩
theorem OW.tr {m m1 m2 : MM} {n pg : Nat} (h : OW m m1 n pg) (h2 : OW m1 m2 n pg) : OW m m2 n pg := fun a ha hb => by
  obtain ⟨a1, a2, a3⟩ := h a ha hb
  obtain ⟨b1, b2, b3⟩ := h2 a ha hb
  exact ⟨b1.trans a1, b2.trans a2, b3.trans a3⟩
theorem Off.ow {m m1 : MM} {l : List Nat} {n pg : Nat} (h : Off m m1 l) (hl : ∀ a ∈ l, (pg ≤ a ∧ a < pg + 100) ∨ (n + 203 ≤ a ∧ a < n + 209)) : OW m m1 n pg := fun a ha hb => h a (fun z => by have := hl a z; omega)
theorem OR.ow {m m1 : MM} {lo hi n pg : Nat} (h : OR m m1 lo hi) (h1 : pg ≤ lo) (h2 : hi ≤ pg + 100) : OW m m1 n pg := fun a ha _ => h a (by omega)
theorem hd_drop {L : List Tok} {k : Nat} {c : Tok} (h : L[k]? = some c) : hd (L.drop k) = c.1 ∧ plc (L.drop k) = c.2.1 ∧ nmb (L.drop k) = c.2.2 ∧ (L.drop k).tail = L.drop (k + 1) := by
  rw [drop_cons h]
  exact ⟨rfl, rfl, rfl, rfl⟩
theorem PS.cur {G : GG} {m : MM} {n pg : Nat} {L : List Tok} {k : Nat} {K : List Ko} {P : List Enm} (h : PS G m n pg L k K P) : ∃ c, L[k]? = some c ∧ gI m (n + 205) 3 = nI c.1 ∧ gI m (n + 205) 4 = nI c.2.1 ∧ gI m (n + 205) 5 = nI c.2.2 ∧ c.1 < 256 ∧ c.2.1 < 4096 ∧ c.2.2 < 1000000000 ∧ hd (L.drop k) = c.1 ∧ plc (L.drop k) = c.2.1 ∧ nmb (L.drop k) = c.2.2 ∧ (L.drop k).tail = L.drop (k + 1) := by
  obtain ⟨c, hc⟩ : ∃ c, L[k]? = some c := ⟨L[k]'h.2.2.2.2.2.2.2.2, List.getElem?_eq_getElem _⟩
  obtain ⟨a1, a2, a3, a4, a5, a6⟩ := tk_cur h.2.2.1 hc
  exact ⟨c, hc, a1, a2, a3, a4, a5, a6, hd_drop hc⟩
/-- only the token is another -/
theorem PS.tok {G : GG} {m m1 : MM} {n pg : Nat} {L : List Tok} {k k1 : Nat} {K : List Ko} {P : List Enm} (hN : PN n pg) (h : PS G m n pg L k K P) (o : Off m m1 [n + 205]) (r : m1.2.2 = m.2.2) (hT : TK G m1 (n + 205) L k1) (hk : k ≤ k1) : PS G m1 n pg L k1 K P := by
  obtain ⟨h1, h2, h3, h4, h5, h6, h7, h8, h9⟩ := h
  have hb : ∀ a, pg ≤ a → a < pg + 100 → a ∉ [n + 205] := fun a h1 h2 => by
    unfold PN at hN
    simp
    omega
  obtain ⟨c, hc, -⟩ := hT.2.2.2
  refine ⟨h1.eq r, h2.eq r, hT, h4.kept o (hb _ (by omega) (by omega)) (hb _ (by omega) (by omega)), ⟨by rw [o.I (hb _ (by omega) (by omega))]; exact h5.1, fun e E hE => ?_⟩, h6, h7.kept o (by simp), by omega, get_lt hc⟩
  have he := get_lt hE
  have h61 := h6.1
  exact ⟨by rw [o.I (hb _ (by omega) (by omega))]; exact (h5.2 e E hE).1, (h5.2 e E hE).2.kept (fun a a1 a2 => (o a (hb _ (by omega) (by omega))).1)⟩
theorem PS.adv {G : GG} {m : MM} {n pg : Nat} {L : List Tok} {k : Nat} {K : List Ko} {P : List Enm} (hN : PN n pg) (hE : EL L) (h : PS G m n pg L k K P) {c : Tok} (hc : L[k]? = some c) (h130 : c.1 ≠ 130) : ∃ m1, M_X9_advance G (n + 205) m = some (true, m1) ∧ PS G m1 n pg L (k + 1) K P ∧ Off m m1 [n + 205] ∧ m1.2.2 = m.2.2 := by
  obtain ⟨m1, e1, e2, e3, e4⟩ := tk_advance h.2.2.1 (hE k c hc h130)
  exact ⟨m1, e1, h.tok hN e3 e4 e2 (by omega), e3, e4⟩
theorem PS.take {G : GG} {m : MM} {n pg : Nat} {L : List Tok} {k : Nat} {K : List Ko} {P : List Enm} (hN : PN n pg) (hE : EL L) (h : PS G m n pg L k K P) {w : Nat} (hw : w < 256) (hw2 : w ≠ 130) : (hd (L.drop k) = w → ∃ m1, M_X9_take G (n + 205) (nI w) m = some (true, m1) ∧ PS G m1 n pg L (k + 1) K P ∧ Off m m1 [n + 205] ∧ m1.2.2 = m.2.2 ∧ (L.drop k).tail = L.drop (k + 1)) ∧ (hd (L.drop k) ≠ w → M_X9_take G (n + 205) (nI w) m = some (false, m)) := by
  obtain ⟨c, hc, -, -, -, -, -, -, hh, -, -, ht⟩ := h.cur
  obtain ⟨t1, t2⟩ := tk_take h.2.2.1 hc (w := w) (by omega)
  rw [hh]
  refine ⟨fun e => ?_, fun e => t2 e⟩
  obtain ⟨m1, e1, e2, e3, e4⟩ := t1 e (hE k c hc (by omega))
  exact ⟨m1, e1, h.tok hN e3 e4 e2 (by omega), e3, e4, ht⟩
def EQX {β : Type} (G : GG) (x0 : Nat) (so : Int32) (m : MM) (A Bf : MM → Option β) : Option β :=
  nb (gR m x0 0) fun b_1 => bd (M_X9_take G b_1 61 m) fun r_2 m_3 =>
    if r_2 = true then
      nb (gR m_3 x0 1) fun b_4 => bd (M_X2_read G b_4 so m_3) fun r_5 m_6 =>
        if r_5 = true then
          nb (gR m_6 x0 0) fun b_7 => bd (M_X9_take G b_7 59 m_6) fun r_8 m_9 =>
            if r_8 = true then A m_9 else Bf m_9
        else Bf m_6
    else Bf m_3
def GD {β : Type} (G : GG) (n pg : Nat) (L : List Tok) (k : Nat) (m : MM) (X : Option β) (A : MM → Option β) (K1 : List Ko) (P1 : List Enm) (r : List Tok) : Prop := ∃ m1 k1, X = A m1 ∧ PS G m1 n pg L k1 K1 P1 ∧ r = L.drop k1 ∧ OW m m1 n pg ∧ m1.2.2 = m.2.2 ∧ k ≤ k1
def BA {β : Type} (G : GG) (n pg : Nat) (L : List Tok) (m : MM) (X : Option β) (Bf : MM → Option β) (r : List Tok) : Prop := ∃ m1 k1, X = Bf m1 ∧ PW G m1 n L k1 ∧ r = L.drop k1 ∧ OW m m1 n pg ∧ m1.2.2 = m.2.2
theorem nts_fold {so : Nat} : ∀ (l : List Op) (F : Nat × Nat), nts so F l = ((l.filter (fun o => badB so o)).map (fun z => ((6, z.2.1) : Nat × Nat))).foldl ntF F := by
  intro l
  induction l with
  | nil => intro F; rfl
  | cons o l ih =>
    intro F
    simp only [nts]
    rw [ih]
    by_cases h : badB so o = true
    · simp [List.filter_cons, h]
    · simp [List.filter_cons, h]
theorem FM.app {m : MM} {fa en so c : Nat} {K : List Ko} {P : List Enm} {N : List (Nat × Nat)} {o : List Op} (h : ∀ q, q ∈ N ↔ (bdK K q ∨ ∃ E ∈ P, q ∈ mkD E.2.2)) (hF : FS m fa (nts so (N.foldl ntF (0, 0)) o)) : FM m fa (K ++ o.map (kox en so c) ++ [stK en so c]) P := by
  rw [nts_fold, ← List.foldl_append] at hF
  refine ⟨_, hF, fun q => ?_⟩
  rw [List.mem_append, h q]
  constructor
  · intro z
    rcases z with (⟨x, hx, hb⟩ | z) | z
    · exact Or.inl ⟨x, by simp [hx], hb⟩
    · exact Or.inr z
    · obtain ⟨x, hx, rfl⟩ := List.mem_map.mp z
      obtain ⟨h1, h2⟩ := List.mem_filter.mp hx
      exact Or.inl ⟨kox en so c x, by simp; exact Or.inr (Or.inl ⟨x.1, x.2.1, x.2.2.1, x.2.2.2, h1, rfl⟩), h2, rfl⟩
  · intro z
    rcases z with ⟨x, hx, hb, rfl⟩ | z
    · rw [List.mem_append, List.mem_append, List.mem_singleton] at hx
      rcases hx with (hx | hx) | hx
      · exact Or.inl (Or.inl ⟨x, hx, hb, rfl⟩)
      · obtain ⟨y, hy, rfl⟩ := List.mem_map.mp hx
        exact Or.inr (List.mem_map.mpr ⟨y, List.mem_filter.mpr ⟨hy, hb⟩, rfl⟩)
      · subst hx
        simp [stK, badB] at hb
    · exact Or.inl (Or.inr z)
theorem cp_ex {β : Type} {A Bf : MM → Option β} {G : GG} {m : MM} {n pg k en so c : Nat} {L : List Tok} {K : List Ko} {P : List Enm} (hN : PN n pg) (hE : EL L) (hso : so < 3) (h : PS G m n pg L k K P) : (∀ K1 r, pEx en so c K (L.drop k) = (some K1, r) → GD G n pg L (k + 1) m (EQX G (n + 204) (nI so) m A Bf) A K1 P r) ∧ ∀ r, pEx en so c K (L.drop k) = (none, r) → BA G n pg L m (EQX G (n + 204) (nI so) m A Bf) Bf r := by
  unfold EQX pEx
  obtain ⟨t1, t2⟩ := h.take hN hE (w := 61) (by omega) (by omega)
  rw [nb_e h.1.1, show (61 : Int32) = nI 61 from rfl]
  by_cases q1 : hd (L.drop k) = 61
  · obtain ⟨m1, e1, e2, e3, e4, e5⟩ := t1 q1
    rw [bd_e e1, if_pos rfl, if_pos q1, e5]
    have e20 := e2
    obtain ⟨p1, p2, p3, p4, p5, p6, ⟨N, p7, p7'⟩, p8, p9⟩ := e2
    have hk := h.2.2.2.2.2.2.2.1
    obtain ⟨b, m2, k2, o, f1, f2, f3, f4, f5, f6, f7, f8⟩ := cx_read hN.dx hE hso p1.2.2.2.2 p3 p4 p7 (by rw [List.length_map]; omega) p9
    rw [nb_e p1.2.1, bd_e f1, f2]
    dsimp only
    have o2 : OW m m2 n pg := (e3.ow (by simp)).tr (f3.ow (by simp))
    have r2 : m2.2.2 = m.2.2 := f4.trans e4
    cases b with
    | false =>
      rw [if_neg ff, if_neg ff]
      refine ⟨fun K1 r z => by simp at z, fun r z => ?_⟩
      cases z
      exact ⟨m2, k2, rfl, ⟨(p1.eq f4).1, (p1.eq f4).2.2.2.1, f6⟩, rfl, o2, r2⟩
    | true =>
      obtain ⟨g1, g2, g3⟩ := f8 rfl
      rw [if_pos rfl, if_pos rfl]
      have hops : ∀ z ∈ o, opB z := by
        have := pX_ok (l := L.drop (k + 1)) (fun t ht => (p3.2.2.1 t (List.mem_of_mem_drop ht)).2)
        rw [f2] at this
        exact this
      have hlen : k2 < L.length := by
        obtain ⟨c, hc, -⟩ := f6.2.2.2
        exact get_lt hc
      have hS2 : PS G m2 n pg L k2 (K ++ o.map (kox en so c) ++ [stK en so c]) P := by
        refine ⟨p1.eq f4, p2.eq f4, f6, ?_, ⟨by rw [f5 3 (by decide)]; exact p5.1, fun e E hEe => ?_⟩, p6, FM.app p7' g2, ?_, hlen⟩
        · rw [List.map_append, List.map_append, encK_ops o hops]
          exact g1
        · have he := get_lt hEe
          have h61 := p6.1
          have hN2 := hN
          unfold PN at hN2
          exact ⟨by rw [f3.I (by simp; omega)]; exact (p5.2 e E hEe).1, (p5.2 e E hEe).2.kept (fun a a1 a2 => (f3 a (by simp; omega)).1)⟩
        · simp only [List.length_append, List.length_map, List.length_cons, List.length_nil] at g3 ⊢
          omega
      obtain ⟨u1, u2⟩ := hS2.take hN hE (w := 59) (by omega) (by omega)
      rw [nb_e hS2.1.1, show (59 : Int32) = nI 59 from rfl]
      by_cases q2 : hd (L.drop k2) = 59
      · obtain ⟨m3, i1, i2, i3, i4, i5⟩ := u1 q2
        rw [bd_e i1, if_pos rfl, if_pos q2, i5]
        refine ⟨fun K1 r z => ?_, fun r z => by simp at z⟩
        cases z
        exact ⟨m3, k2 + 1, rfl, i2, rfl, o2.tr (i3.ow (by simp)), i4.trans r2, by omega⟩
      · rw [bd_e (u2 q2), if_neg ff, if_neg q2]
        refine ⟨fun K1 r z => by simp at z, fun r z => ?_⟩
        cases z
        exact ⟨m2, k2, rfl, hS2.w, rfl, o2, r2⟩
  · rw [bd_e (t2 q1), if_neg ff, if_neg q1]
    refine ⟨fun K1 r z => by simp at z, fun r z => ?_⟩
    cases z
    exact ⟨m, k, rfl, h.w, rfl, OW.rf, rfl⟩
