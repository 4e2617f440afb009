/-! ===== L2: the Binder's whole walk ===== -/
def T12 (n : Nat) (K : List Ko) : Prop := ∀ q ∈ K, q.1.1 = 12 → q.1.2.2.2 < n
theorem T12.mono {n n' : Nat} {K : List Ko} (h : T12 n K) (hn : n ≤ n') : T12 n' K := fun q hq z => by
  have := h q hq z
  omega
theorem t_one {n : Nat} {K : List Ko} {q : Ko} (hK : T12 n K) (hq : q.1.1 = 12 → q.1.2.2.2 < n) : T12 n (K ++ [q]) := fun x hx z => by
  rcases List.mem_append.mp hx with w | w
  · exact hK x w z
  · rw [List.mem_singleton] at w
    rw [w] at z ⊢
    exact hq z
theorem t_ex {n en so c : Nat} {K K1 : List Ko} {l r : List Tok} (h : pEx en so c K l = (some K1, r)) (hc : CL l) (hK : T12 n K) : r <:+ l ∧ T12 n K1 := by
  obtain ⟨h1, ops, e, h2, -, -⟩ := ex_inv h hc
  refine ⟨h1, ?_⟩
  rw [e]
  intro q hq h12
  rcases List.mem_append.mp hq with w | w
  · exact hK q w h12
  · rcases List.mem_append.mp w with w | w
    · obtain ⟨o, ho, rfl⟩ := List.mem_map.mp w
      have := (h2 o ho).2.1
      have h12 : o.1 = 12 := h12
      omega
    · rw [List.mem_singleton] at w
      rw [w] at h12
      simp [stK] at h12
theorem t_gv {n en c : Nat} : ∀ (f : Nat) (K K1 : List Ko) (l r : List Tok), pGv en c f K l = (some K1, r) → CL l → T12 n K → r <:+ l ∧ T12 n K1 := by
  intro f
  induction f with
  | zero => intro K K1 l r h; simp [pGv] at h
  | succ f ih =>
    intro K K1 l r h hc hK
    rw [pGv] at h
    split at h
    · split at h
      · rename_i K2 r1 hp
        obtain ⟨a, b⟩ := t_ex hp hc.tail (t_one hK (by simp [gvK]))
        have s1 := a.trans (List.tail_suffix l)
        obtain ⟨x, y⟩ := ih K2 K1 r1 r h (hc.suf s1) b
        exact ⟨x.trans s1, y⟩
      · simp at h
    · split at h
      · cases h
        exact ⟨List.tail_suffix l, hK⟩
      · simp at h
theorem t_bdy {n en c b : Nat} {K K1 : List Ko} {l r : List Tok} (h : pBdy en c K l = (some (b, K1), r)) (hc : CL l) (hK : T12 n K) : r <:+ l ∧ T12 n K1 := by
  unfold pBdy at h
  split at h
  · split at h
    · rename_i K2 r1 hp
      cases h
      obtain ⟨x, y⟩ := t_gv 2002 _ _ _ _ hp hc.tail (t_one hK (by simp [bdyK]))
      exact ⟨x.trans (List.tail_suffix l), y⟩
    · simp at h
  · cases h
    exact ⟨List.suffix_refl _, hK⟩
theorem t_cs {n en : Nat} : ∀ (f : Nat) (cs cs1 : List Con) (K K1 : List Ko) (l r : List Tok), pCs en f cs K l = (some (cs1, K1), r) → CL l → T12 n K → r <:+ l ∧ T12 n K1 := by
  intro f
  induction f with
  | zero => intro cs cs1 K K1 l r h; simp [pCs] at h
  | succ f ih =>
    intro cs cs1 K K1 l r h hc hK
    rw [pCs] at h
    split at h
    · split at h
      · simp at h
      · rename_i v l1 hp
        have s1 := (arg_inv hp).trans (List.tail_suffix l)
        split at h
        · simp at h
        · rename_i b K2 l2 hb
          obtain ⟨x, y⟩ := t_bdy hb (hc.suf s1) hK
          have s2 := x.trans s1
          split at h
          · have s3 := (List.tail_suffix l2).trans s2
            obtain ⟨x', y'⟩ := ih _ cs1 K2 K1 l2.tail r h (hc.suf s3) y
            exact ⟨x'.trans s3, y'⟩
          · cases h
            exact ⟨s2, y⟩
    · simp at h
theorem t_mm {n en : Nat} {ms ms1 : List Mem} {K K1 : List Ko} {l r : List Tok} (h : pMm en ms K l = (some (ms1, K1), r)) (hc : CL l) (hK : T12 n K) : r <:+ l ∧ T12 n K1 := by
  have t1 := List.tail_suffix l
  have t2 := (List.tail_suffix l.tail).trans t1
  have t3 := (List.tail_suffix l.tail.tail).trans t2
  have t4 := (List.tail_suffix l.tail.tail.tail).trans t3
  have t5 := (List.tail_suffix l.tail.tail.tail.tail).trans t4
  unfold pMm at h
  split at h
  · unfold pAbs at h
    split at h
    · split at h
      · cases h
        exact ⟨t3, hK⟩
      · simp at h
    · simp at h
  · split at h
    · unfold pDef at h
      split at h
      · split at h
        · rename_i K2 r1 hp
          cases h
          obtain ⟨x, y⟩ := t_ex hp (hc.suf t2) hK
          exact ⟨x.trans t2, y⟩
        · simp at h
      · simp at h
    · split at h
      · unfold pFld at h
        split at h
        · split at h
          · rename_i K2 r1 hp
            cases h
            obtain ⟨x, y⟩ := t_ex hp (hc.suf t2) hK
            exact ⟨x.trans t2, y⟩
          · simp at h
        · simp at h
      · split at h
        · unfold pCst at h
          split at h
          · split at h
            · split at h
              · split at h
                · cases h
                  exact ⟨t5, hK⟩
                · simp at h
              · simp at h
            · simp at h
          · simp at h
        · unfold pMk at h
          split at h
          · rename_i K2 r1 hp
            cases h
            obtain ⟨x, y⟩ := t_ex hp (hc.suf t1) (t_one hK (by simp [mkK]))
            exact ⟨x.trans t1, y⟩
          · simp at h
theorem t_ms {n en : Nat} : ∀ (f : Nat) (ms ms1 : List Mem) (K K1 : List Ko) (l r : List Tok), pMs en f ms K l = (some (ms1, K1), r) → CL l → T12 n K → r <:+ l ∧ T12 n K1 := by
  intro f
  induction f with
  | zero => intro ms ms1 K K1 l r h; simp [pMs] at h
  | succ f ih =>
    intro ms ms1 K K1 l r h hc hK
    rw [pMs] at h
    split at h
    · split at h
      · rename_i ms2 K2 r1 hp
        obtain ⟨x, y⟩ := t_mm hp hc hK
        obtain ⟨x', y'⟩ := ih ms2 ms1 K2 K1 r1 r h (hc.suf x) y
        exact ⟨x'.trans x, y'⟩
      · simp at h
    · cases h
      exact ⟨List.suffix_refl _, hK⟩
theorem t_en {P P1 : List Enm} {K K1 : List Ko} {l r : List Tok} (h : pEn P K l = (some (P1, K1), r)) (hc : CL l) (hK : T12 P.length K) : r <:+ l ∧ T12 P1.length K1 := by
  have hP := (pEn_len h).1
  have t1 := List.tail_suffix l
  have t2 := (List.tail_suffix l.tail).trans t1
  unfold pEn at h
  split at h
  · split at h
    · split at h
      · simp at h
      · rename_i cs K2 l1 hp
        have hK2 : T12 (P.length + 1) (K ++ [enK P.length]) := t_one (hK.mono (by omega)) (fun _ => by simp [enK])
        have a1 : l1 <:+ l.tail.tail ∧ T12 (P.length + 1) K2 := by
          unfold pCns at hp
          split at hp
          · exact t_cs 14 _ _ _ _ _ _ hp (hc.suf t2) hK2
          · cases hp
            exact ⟨List.suffix_refl _, hK2⟩
        have s1 := a1.1.trans t2
        split at h
        · simp at h
        · rename_i ms K3 l2 hq
          have a2 : l2 <:+ l1 ∧ T12 (P.length + 1) K3 := by
            unfold pMbs at hq
            split at hq
            · obtain ⟨x, y⟩ := t_ms 2002 _ _ _ _ _ _ hq ((hc.suf s1).tail) a1.2
              exact ⟨x.trans (List.tail_suffix l1), y⟩
            · cases hq
              exact ⟨List.suffix_refl _, a1.2⟩
          split at h
          · cases h
            exact ⟨(List.tail_suffix l2).trans (a2.1.trans s1), by rw [hP]; exact a2.2⟩
          · simp at h
    · simp at h
  · simp at h
theorem t_tx : ∀ (f : Nat) (P P1 : List Enm) (K K1 : List Ko) (l r : List Tok), pTx f P K l = (some (P1, K1), r) → CL l → T12 P.length K → T12 P1.length K1 := by
  intro f
  induction f with
  | zero => intro P P1 K K1 l r h; simp [pTx] at h
  | succ f ih =>
    intro P P1 K K1 l r h hc hK
    rw [pTx] at h
    split at h
    · cases h
      exact hK
    · split at h
      · split at h
        · rename_i P2 K2 r1 hp
          obtain ⟨x, y⟩ := t_en hp hc.tail hK
          exact ih P2 P1 K2 K1 r1 r h (hc.suf (x.trans (List.tail_suffix l))) y
        · simp at h
      · simp at h
theorem t_text {B : Nat → Int32} {len : Nat} {P : List Enm} {K : List Ko} {r : List Tok} (hT : Tx B len) (hB : By B len) (h : pTx 9 [] [] (tks B len 0) = (some (P, K), r)) : T12 P.length K := t_tx 9 [] P [] K _ r h (cl_tks hT hB) (fun q hq => by simp at hq)
/-! the walk -/
def NB (G : GG) (m : MM) (n pg tp len : Nat) (B : Nat → Int32) (P : List Enm) (C : List Int64) (gc : Nat → Nat → Nat → Int32) (s : BS) (X : Option (Unit × MM)) (S : Nat × Nat → Prop) : Prop := ∃ m1 F1, X = some ((), m1) ∧ CV G m1 pg tp len B P C gc ∧ BR m1 n pg s ∧ FS m1 (n + 203) F1 ∧ MF S F1 ∧ OB m m1 n pg
theorem NB.cg {G : GG} {m : MM} {n pg tp len : Nat} {B : Nat → Int32} {P : List Enm} {C : List Int64} {gc : Nat → Nat → Nat → Int32} {s : BS} {X : Option (Unit × MM)} {S S' : Nat × Nat → Prop} (h : NB G m n pg tp len B P C gc s X S) (e : ∀ q, S q ↔ S' q) : NB G m n pg tp len B P C gc s X S' := by
  obtain ⟨m1, F1, a, b, c, d, f, g⟩ := h
  exact ⟨m1, F1, a, b, c, d, f.cg e, g⟩
theorem NB.tr {G : GG} {m m0 : MM} {n pg tp len : Nat} {B : Nat → Int32} {P : List Enm} {C : List Int64} {gc : Nat → Nat → Nat → Int32} {s : BS} {X : Option (Unit × MM)} {S : Nat × Nat → Prop} (o : OB m0 m n pg) (h : NB G m n pg tp len B P C gc s X S) : NB G m0 n pg tp len B P C gc s X S := by
  obtain ⟨m1, F1, a, b, c, d, f, g⟩ := h
  exact ⟨m1, F1, a, b, c, d, f, o.tr g⟩
/-- one place of a row whose name stands in it before -/
def tws (B : Nat → Int32) (l : List Nat) (k : Nat) (q : Nat × Nat) : Prop := ∃ i p, k ≤ i ∧ l[i]? = some p ∧ fn B p (l.take i) ≠ none ∧ q = (2, p)
theorem oI_no {x : Option Nat} (h : ∀ i, x = some i → i < 100000) : oI x = -1 ↔ x = none := by
  cases x with
  | none => simp [oI]
  | some i =>
    have hi := h i rfl
    simp only [oI, reduceCtorEq, iff_false]
    intro w
    exact nI_pos (n := i) (by omega) (by rw [w]; decide)
theorem nt_loop {G : GG} {n pg tp len ar : Nat} {B : Nat → Int32} {P : List Enm} {C : List Int64} {gc : Nat → Nat → Nat → Int32} {s : BS} {l : List Nat} (hN : PN n pg) (htp : tp = n + 201 ∨ tp = n + 214) (hl : l.length ≤ G.2.2 ar) (hz : G.2.2 ar < 1000) (hp : ∀ p ∈ l, p < 4096) (hg : ∀ m, CV G m pg tp len B P C gc → ∀ k p, l[k]? = some p → gI m ar k = nI p) (hf : ∀ m, CV G m pg tp len B P C gc → ∀ k p, k ≤ l.length → p < 4096 → M_X8_firstNamed G tp (nI p) ar (nI k) m = some (oI (fn B p (l.take k)), m)) : ∀ (fu k : Nat) (m : MM) (F : Nat × Nat) (S : Nat × Nat → Prop), CV G m pg tp len B P C gc → BR m n pg s → FS m (n + 203) F → MF S F → l.length - k < fu → k ≤ l.length → NB G m n pg tp len B P C gc s (B_X0_noteTwice_2 G fu (n + 209) ar (nI l.length) (nI k) m) (fun q => S q ∨ tws B l k q) := by
  intro fu
  induction fu with
  | zero => intro k m F S _ _ _ _ h; omega
  | succ fu ih =>
    intro k m F S hV hb hF hM hfu hk
    rw [B_X0_noteTwice_2]
    by_cases q : l.length ≤ k
    · rw [if_pos ((nI_leI (by omega) (by omega)).mpr q)]
      refine ⟨m, F, rfl, hV, hb, hF, hM.cg (fun z => ⟨Or.inl, fun w => ?_⟩), OB.rf⟩
      rcases w with w | ⟨i, p, a, b, -⟩
      · exact w
      · have := get_lt b
        omega
    · obtain ⟨p, hp1⟩ := lt_get (show k < l.length by omega)
      have hp2 := hp p (List.mem_of_getElem? hp1)
      have step : ∀ {X : Option (Unit × MM)} {S1 : Nat × Nat → Prop}, NB G m n pg tp len B P C gc s X (fun q => S1 q ∨ tws B l (k + 1) q) → (∀ q, S1 q ↔ (S q ∨ (fn B p (l.take k) ≠ none ∧ q = (2, p)))) → NB G m n pg tp len B P C gc s X (fun q => S q ∨ tws B l k q) := fun hX hS => hX.cg (fun z => by
        rw [hS z]
        constructor
        · intro w
          rcases w with (w | w) | ⟨i, y, a, b⟩
          · exact Or.inl w
          · exact Or.inr ⟨k, p, Nat.le_refl _, hp1, w⟩
          · exact Or.inr ⟨i, y, by omega, b⟩
        · intro w
          rcases w with w | ⟨i, y, a, b, w⟩
          · exact Or.inl (Or.inl w)
          · by_cases ei : i = k
            · rw [ei] at b w
              rw [hp1] at b
              cases b
              exact Or.inl (Or.inr w)
            · exact Or.inr ⟨i, y, by omega, b, w⟩)
      rw [if_neg (fun z => q ((nI_leI (by omega) (by omega)).mp z)), if_neg (fun z => absurd ((nI_leI (by omega) (by omega)).mp z) (by omega)), nb_e hb.1, nb_e hV.2.1, ib_n (by omega) (by omega), nI_clamp (by omega), hg m hV k p hp1, bd_e (hf m hV k p hk hp2)]
      have hfl : ∀ i, fn B p (l.take k) = some i → i < 100000 := fun i hi => by
        have := fn_lt hi
        rw [List.length_take] at this
        omega
      by_cases w : fn B p (l.take k) = none
      · rw [if_pos ((oI_no hfl).mpr w), nI_1]
        exact step (ih (k + 1) m F S hV hb hF hM (by omega) (by omega)) (fun z => by simp [w])
      · rw [if_neg (fun z => w ((oI_no hfl).mp z)), nb_e hb.2.1, ib_n (by omega) (by omega), hg m hV k p hp1, nI_1]
        obtain ⟨m1, e1, e2, e3, e4, e5, e6, e7⟩ := cv_note (k := 2) hN htp hV hb hF hM (by omega) (by omega) hp2
        rw [show (2 : Int32) = nI 2 from rfl, bd_e e1]
        exact step ((ih (k + 1) m1 _ _ e2 e3 e4 e5 (by omega) (by omega)).tr e6) (fun z => by simp [w])
theorem nt_enums {G : GG} {m : MM} {n pg tp len : Nat} {B : Nat → Int32} {P : List Enm} {C : List Int64} {gc : Nat → Nat → Nat → Int32} {s : BS} {F : Nat × Nat} {S : Nat × Nat → Prop} (hN : PN n pg) (htp : tp = n + 201 ∨ tp = n + 214) (hV : CV G m pg tp len B P C gc) (hb : BR m n pg s) (hF : FS m (n + 203) F) (hM : MF S F) : NB G m n pg tp len B P C gc s (M_X0_noteTwice G (n + 209) (pg + 2) (nI P.length) m) (fun q => S q ∨ tws B (enp P) 0 q) := by
  have hP := hV.2.2.2.2.2.1
  have e : (enp P).length = P.length := by simp [enp]
  have hz : G.2.2 (pg + 2) = 8 := hV.1.2.2.2.1
  have := nt_loop (ar := pg + 2) (l := enp P) (s := s) hN htp (by rw [e, hz]; exact hP.1) (by rw [hz]; decide) (fun p hp => by
      obtain ⟨E, hE, rfl⟩ := List.mem_map.mp hp
      exact (hP.2 E hE).1) (fun m hV k p hp => by
      unfold enp at hp
      rw [List.getElem?_map, Option.map_eq_some_iff] at hp
      obtain ⟨E, hE, rfl⟩ := hp
      exact (hV.2.2.2.2.2.2 k E hE).1) (fun m hV k p hk hp => cv_enu hV hp k (by omega)) FU 0 m F S hV hb hF hM (by unfold FU; have := hP.1; omega) (by omega)
  unfold M_X0_noteTwice
  rw [e, nI_0] at this
  exact this
theorem nt_names {G : GG} {m : MM} {n pg tp len e : Nat} {B : Nat → Int32} {P : List Enm} {C : List Int64} {gc : Nat → Nat → Nat → Int32} {s : BS} {F : Nat × Nat} {S : Nat × Nat → Prop} {E : Enm} (hN : PN n pg) (htp : tp = n + 201 ∨ tp = n + 214) (hE : P[e]? = some E) (hV : CV G m pg tp len B P C gc) (hb : BR m n pg s) (hF : FS m (n + 203) F) (hM : MF S F) : NB G m n pg tp len B P C gc s (M_X0_noteTwice G (n + 209) (pg + 4 + 12 * e + 11) (nI (nmL E.2.1 E.2.2).length) m) (fun q => S q ∨ tws B (nmL E.2.1 E.2.2) 0 q) := by
  have hP := hV.2.2.2.2.2.1
  have he := get_lt hE
  obtain ⟨b1, b2, b3, b4, b5, b6, b7⟩ := pb_en hP hE
  have hEB := (hP.2 E (List.mem_of_getElem? hE)).2
  have hz : G.2.2 (pg + 4 + 12 * e + 11) = 26 := (cv_le hV he 10 (by omega)).2
  have hl : (nmL E.2.1 E.2.2).length ≤ 26 := by rw [hEB.nm]; omega
  have := nt_loop (ar := pg + 4 + 12 * e + 11) (l := nmL E.2.1 E.2.2) (s := s) hN htp (by rw [hz]; exact hl) (by rw [hz]; decide) (fun p hp => by
      unfold nmL nmM at hp
      rcases List.mem_append.mp hp with w | w
      · obtain ⟨x, hx, rfl⟩ := List.mem_map.mp w
        exact (b6 x hx).1
      · obtain ⟨x, hx, rfl⟩ := List.mem_map.mp w
        exact (b7 x (List.mem_filter.mp hx).1).2.2.1) (fun m hV k p hp => (hV.2.2.2.2.2.2 e E hE).2.1.2.2.2.2.2.2.2.2.2 k p hp) (fun m hV k p hk hp => cv_nam hV hE hp k hk) FU 0 m F S hV hb hF hM (by unfold FU; omega) (by omega)
  unfold M_X0_noteTwice
  rw [nI_0] at this
  exact this
