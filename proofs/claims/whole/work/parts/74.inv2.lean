/-! ===== L2: the marks of the code; every place that is told, in order ===== -/
/-- told places, all before what is to be read -/
def Od (rec : List Nat) (l : List Tok) : Prop := rec.Pairwise (· < ·) ∧ ∀ p ∈ rec, ∀ t ∈ l, p < t.2.1
theorem Od.suf {rec : List Nat} {l r : List Tok} (h : Od rec l) (hr : r <:+ l) : Od rec r := ⟨h.1, fun p hp t ht => h.2 p hp t (hr.subset ht)⟩
theorem Od.add {rec : List Nat} {l : List Tok} (h : Od rec l) (hc : CL l) (hl : l ≠ []) : Od (rec ++ [plc l]) l.tail := by
  cases l with
  | nil => exact absurd rfl hl
  | cons t rs =>
    refine ⟨List.pairwise_append.mpr ⟨h.1, List.pairwise_singleton _ _, fun a ha b hb => ?_⟩, fun p hp x hx => ?_⟩
    · rw [List.mem_singleton] at hb
      rw [hb]
      exact h.2 a ha t (by simp)
    · have hx : x ∈ rs := hx
      rcases List.mem_append.mp hp with q | q
      · exact h.2 p q x (by simp [hx])
      · rw [List.mem_singleton] at q
        rw [q]
        exact (List.pairwise_cons.mp hc.1).1 x hx
theorem Od.nil (l : List Tok) : Od [] l := ⟨List.Pairwise.nil, fun p hp => by simp at hp⟩
theorem ne_nil {l : List Tok} (h : hd l ≠ 0) : l ≠ [] := fun z => h (by rw [z]; rfl)
/-! the Binder's walk -/
abbrev BS : Type := Nat × Nat × Bool
def bw1 (s : BS) (q : Ko) : Option BS :=
  if q.1.1 = 0 then some (s.1, s.2.1, false)
  else if q.1.1 = 12 then some (q.1.2.2.2 + 1, s.2.1, s.2.2)
  else if q.1.1 = 13 then some (s.1, q.1.2.2.2, s.2.2)
  else if q.1.1 = 14 then (if s.1 = q.2.1 + 1 ∧ s.2.1 = q.2.2.2 then some s else none)
  else if q.1.1 = 15 then some (s.1, s.2.1, true)
  else (if s.1 = q.2.1 + 1 ∧ (s.2.2 = decide (q.2.2.1 = 2)) then some s else none)
def bwk : BS → List Ko → Option BS
  | s, [] => some s
  | s, q :: K => (bw1 s q).bind (fun s1 => bwk s1 K)
theorem bwk_app : ∀ (a b : List Ko) (s : BS), bwk s (a ++ b) = (bwk s a).bind (fun s1 => bwk s1 b) := by
  intro a
  induction a with
  | nil => intro b s; rfl
  | cons q a ih =>
    intro b s
    simp only [List.cons_append, bwk]
    cases bw1 s q with
    | none => rfl
    | some s1 => exact ih b s1
theorem bwk_ops {en so c c' : Nat} : ∀ (ops : List Op), (∀ o ∈ ops, opB o) → bwk (en + 1, c', decide (so = 2)) (ops.map (kox en so c)) = some (en + 1, c', decide (so = 2)) := by
  intro ops
  induction ops with
  | nil => intro _; rfl
  | cons o l ih =>
    intro h
    have ho := h o (by simp)
    simp only [List.map_cons, bwk]
    have : bw1 (en + 1, c', decide (so = 2)) (kox en so c o) = some (en + 1, c', decide (so = 2)) := by
      unfold bw1 kox
      have := ho.1
      have := ho.2.1
      rw [if_neg (by simp only; omega), if_neg (by simp only; omega), if_neg (by simp only; omega), if_neg (by simp only; omega), if_neg (by simp only; omega), if_pos ⟨rfl, rfl⟩]
    rw [this]
    exact ih (fun q hq => h q (by simp [hq]))
theorem bwk_ex {en so c c' : Nat} {ops : List Op} (h : ∀ o ∈ ops, opB o) : bwk (en + 1, c', decide (so = 2)) (ops.map (kox en so c) ++ [stK en so c]) = some (en + 1, c', false) := by
  rw [bwk_app, bwk_ops ops h]
  rfl
def s0 : BS := (0, 0, false)
/-! what the code keeps -/
theorem gvi_mem : ∀ (K : List Ko) (i : Nat) (x : Nat × Ko), x ∈ gvi i K → x.2 ∈ K ∧ x.2.1.1 = 14 := by
  intro K
  induction K with
  | nil => intro i x h; simp [gvi] at h
  | cons q K ih =>
    intro i x h
    rw [gvi] at h
    by_cases z : q.1.1 = 14
    · rw [if_pos z] at h
      rcases List.mem_cons.mp h with y | y
      · rw [y]
        exact ⟨by simp, z⟩
      · have := ih (i + 1) x y
        exact ⟨by simp [this.1], this.2⟩
    · rw [if_neg z] at h
      have := ih (i + 1) x h
      exact ⟨by simp [this.1], this.2⟩
def gpl (K : List Ko) : List Nat := (gvi 0 K).map (fun x => x.2.1.2.1)
def KB (n : Nat) (K : List Ko) : Prop := ∀ q ∈ K, q.2.1 < n ∧ (q.1.1 ≤ 11 → 1 ≤ q.1.1 → opB q.1) ∧ (q.1.1 = 14 → q.1.2.1 < 4096) ∧ q.1.1 ≤ 15 ∧ (12 ≤ q.1.1 → q.1.2.2.2 < 100) ∧ q.2.2.1 ≤ 2
def GI (K : List Ko) (Q : List Enm) (nc : Nat) : Prop := ∀ x ∈ gvi 0 K, ((∃ E, Q[x.2.2.1]? = some E ∧ x.2.2.2.2 < E.2.1.length) ∨ (x.2.2.1 = Q.length ∧ x.2.2.2.2 < nc)) ∧ ∃ ops, SG K (x.1 + 1) (ops.map (kox x.2.2.1 0 x.2.2.2.2)) ∧ XV ops
def KI (Q : List Enm) (nc : Nat) (K : List Ko) (l : List Tok) : Prop := Od (gpl K) l ∧ KB (Q.length + 1) K ∧ GI K Q nc
def ptr (K : List Ko) (a e so : Nat) : Prop := ∃ ops c, SG K a (ops.map (kox e so c)) ∧ XV ops
theorem ptr.app {K X : List Ko} {a e so : Nat} (h : ptr K a e so) : ptr (K ++ X) a e so := by
  obtain ⟨ops, c, h1, h2⟩ := h
  exact ⟨ops, c, h1.app, h2⟩
theorem KI.suf {Q : List Enm} {nc : Nat} {K : List Ko} {l r : List Tok} (h : KI Q nc K l) (hr : r <:+ l) : KI Q nc K r := ⟨h.1.suf hr, h.2⟩
theorem KI.mono {Q : List Enm} {nc nc' : Nat} {K : List Ko} {l : List Tok} (h : KI Q nc K l) (hn : nc ≤ nc') : KI Q nc' K l := ⟨h.1, h.2.1, fun x hx => by
  obtain ⟨a, b⟩ := h.2.2 x hx
  exact ⟨a.imp id (fun z => ⟨z.1, by omega⟩), b⟩⟩
/-- more code without a give -/
theorem KI.app {Q : List Enm} {nc : Nat} {K X : List Ko} {l : List Tok} (h : KI Q nc K l) (hX : ∀ q ∈ X, q.1.1 ≠ 14) (hB : KB (Q.length + 1) X) : KI Q nc (K ++ X) l := by
  have e : gvi 0 (K ++ X) = gvi 0 K := by rw [gvi_app, gvi_none X _ hX, List.append_nil]
  refine ⟨?_, fun q hq => ?_, fun x hx => ?_⟩
  · unfold gpl
    rw [e]
    exact h.1
  · rcases List.mem_append.mp hq with z | z
    · exact h.2.1 q z
    · exact hB q z
  · rw [e] at hx
    obtain ⟨a, ops, b, c⟩ := h.2.2 x hx
    exact ⟨a, ops, b.app, c⟩
theorem kb_ex {n en so c : Nat} {ops : List Op} (h : ∀ o ∈ ops, opB o) (hn : en < n) (hs : so ≤ 2) : KB n (ops.map (kox en so c) ++ [stK en so c]) := fun q hq => by
  rcases List.mem_append.mp hq with z | z
  · obtain ⟨o, ho, rfl⟩ := List.mem_map.mp z
    have := h o ho
    have h1 := this.1
    have h2 := this.2.1
    refine ⟨hn, fun _ _ => this, fun z => ?_, by show o.1 ≤ 15; omega, fun z => ?_, hs⟩
    · have : o.1 = 14 := z
      omega
    · have : 12 ≤ o.1 := z
      omega
  · rw [List.mem_singleton] at z
    rw [z]
    exact ⟨hn, fun _ z => by simp [stK] at z, fun z => by simp [stK] at z, by simp [stK], fun z => by simp [stK] at z, hs⟩
theorem kb_one {n : Nat} {q : Ko} (hn : q.2.1 < n) (h1 : 12 ≤ q.1.1) (h2 : q.1.1 ≤ 15) (h3 : q.1.1 = 14 → q.1.2.1 < 4096) (h4 : q.1.2.2.2 < 100) (h5 : q.2.2.1 ≤ 2) : KB n [q] := fun z hz => by
  rw [List.mem_singleton] at hz
  rw [hz]
  exact ⟨hn, fun _ _ => by omega, h3, h2, fun _ => h4, h5⟩
/-- an exp -/
theorem ex_inv {en so c : Nat} {K K1 : List Ko} {l r : List Tok} (h : pEx en so c K l = (some K1, r)) (hc : CL l) : r <:+ l ∧ ∃ ops, K1 = K ++ (ops.map (kox en so c) ++ [stK en so c]) ∧ (∀ o ∈ ops, opB o) ∧ XV ops ∧ SG K1 K.length (ops.map (kox en so c)) := by
  unfold pEx at h
  by_cases q1 : hd l = 61
  · rw [if_pos q1] at h
    by_cases q2 : (pX l.tail).1 = true
    · rw [if_pos q2] at h
      by_cases q3 : hd (pX l.tail).2.2 = 59
      · rw [if_pos q3] at h
        cases h
        have ho := pX_ok hc.tail.2
        refine ⟨((List.tail_suffix _).trans (pX_suf _)).trans (List.tail_suffix _), (pX l.tail).2.1, by rw [List.append_assoc], ho, pX_v hc.tail.2 q2, SG_ex ho⟩
      · rw [if_neg q3] at h
        simp at h
    · rw [if_neg q2] at h
      simp at h
  · rw [if_neg q1] at h
    simp at h
theorem gv_inv {Q : List Enm} {c : Nat} : ∀ (f : Nat) (K K1 : List Ko) (l r : List Tok), pGv Q.length c f K l = (some K1, r) → CL l → KI Q (c + 1) K l → bwk s0 K = some (Q.length + 1, c, false) → r <:+ l ∧ KI Q (c + 1) K1 r ∧ bwk s0 K1 = some (Q.length + 1, c, false) ∧ ∃ X, K1 = K ++ X := by
  intro f
  induction f with
  | zero => intro K K1 l r h; simp [pGv] at h
  | succ f ih =>
    intro K K1 l r h hc hK hw
    rw [pGv] at h
    by_cases q1 : hd l = 128
    · rw [if_pos q1] at h
      cases hp : pEx Q.length 0 c (K ++ [gvK Q.length c (plc l)]) l.tail with
      | mk o r1 =>
        rw [hp] at h
        cases o with
        | none => simp at h
        | some K2 =>
          dsimp only at h
          obtain ⟨e1, ops, e2, e3, e4, e5⟩ := ex_inv hp hc.tail
          have hpl : plc l < 4096 := by
            cases l with
            | nil => simp [hd] at q1
            | cons t rs => exact (hc.2 t (by simp)).1
          have s1 := e1.trans (List.tail_suffix l)
          have hw2 : bwk s0 K2 = some (Q.length + 1, c, false) := by
            rw [e2, bwk_app, bwk_app, hw]
            show ((if Q.length + 1 = Q.length + 1 ∧ c = c then some (Q.length + 1, c, false) else none : Option BS).bind _).bind _ = _
            rw [if_pos ⟨rfl, rfl⟩]
            exact bwk_ex (so := 0) e3
          have hK2 : KI Q (c + 1) K2 r1 := by
            have eg : gvi 0 K2 = gvi 0 K ++ [(K.length, gvK Q.length c (plc l))] := by
              rw [e2, gvi_app, gvi_none _ _ (ex_no14 e3), List.append_nil, gvi_app]
              simp [gvi, gvK]
            refine ⟨?_, fun q hq => ?_, fun x hx => ?_⟩
            · unfold gpl
              rw [eg, List.map_append]
              exact (hK.1.add hc (ne_nil (by omega))).suf e1
            · rw [e2] at hq
              rcases List.mem_append.mp hq with z | z
              · rcases List.mem_append.mp z with z | z
                · exact hK.2.1 q z
                · exact kb_one (q := gvK Q.length c (plc l)) (by simp [gvK]) (by simp [gvK]) (by simp [gvK]) (fun _ => hpl) (by simp [gvK]) (by simp [gvK]) q z
              · exact kb_ex e3 (by omega) (by omega) q z
            · rw [eg] at hx
              rcases List.mem_append.mp hx with z | z
              · obtain ⟨a, ops', b, d⟩ := hK.2.2 x z
                rw [e2, List.append_assoc]
                exact ⟨a, ops', b.app, d⟩
              · rw [List.mem_singleton] at z
                rw [z]
                refine ⟨Or.inr ⟨rfl, by show c < c + 1; omega⟩, ops, ?_, e4⟩
                rw [List.length_append, List.length_singleton] at e5
                exact e5
          obtain ⟨i1, i2, i3, X, i4⟩ := ih K2 K1 r1 r h (hc.suf s1) hK2 hw2
          exact ⟨i1.trans s1, i2, i3, _, by rw [i4, e2, List.append_assoc, List.append_assoc]⟩
    · rw [if_neg q1] at h
      by_cases q2 : hd l = 125
      · rw [if_pos q2] at h
        cases h
        exact ⟨List.tail_suffix l, hK.suf (List.tail_suffix l), hw, [], by simp⟩
      · rw [if_neg q2] at h
        simp at h
theorem arg_inv {l r : List Tok} {v : Nat} (h : pArg l = (some v, r)) : r <:+ l := by
  unfold pArg at h
  by_cases q1 : hd l = 40
  · rw [if_pos q1] at h
    by_cases q2 : hd l.tail = 129
    · rw [if_pos q2] at h
      by_cases q3 : hd l.tail.tail = 41
      · rw [if_pos q3] at h
        cases h
        exact ((List.tail_suffix _).trans (List.tail_suffix _)).trans (List.tail_suffix _)
      · rw [if_neg q3] at h
        simp at h
    · rw [if_neg q2] at h
      simp at h
  · rw [if_neg q1] at h
    cases h
    exact List.suffix_refl _
theorem bdy_inv {Q : List Enm} {c c' b : Nat} {K K1 : List Ko} {l r : List Tok} (h : pBdy Q.length c K l = (some (b, K1), r)) (hc : CL l) (hK : KI Q c K l) (hw : bwk s0 K = some (Q.length + 1, c', false)) (h12 : c < 12) : r <:+ l ∧ KI Q (c + 1) K1 r ∧ (∃ c2, bwk s0 K1 = some (Q.length + 1, c2, false)) ∧ ∃ X, K1 = K ++ X := by
  unfold pBdy at h
  by_cases q1 : hd l = 123
  · rw [if_pos q1] at h
    cases hp : pGv Q.length c 2002 (K ++ [bdyK Q.length c]) l.tail with
    | mk o r1 =>
      rw [hp] at h
      cases o with
      | none => simp at h
      | some K2 =>
        cases h
        have s1 := List.tail_suffix l
        obtain ⟨i1, i2, i3, X, i4⟩ := gv_inv 2002 _ _ _ _ hp hc.tail (((hK.mono (by omega)).app (by simp [bdyK]) (kb_one (by simp [bdyK]) (by simp [bdyK]) (by simp [bdyK]) (by simp [bdyK]) (by simp [bdyK]; omega) (by simp [bdyK]))).suf s1) (by rw [bwk_app, hw]; rfl)
        exact ⟨i1.trans s1, i2, ⟨c, i3⟩, _, by rw [i4, List.append_assoc]⟩
  · rw [if_neg q1] at h
    cases h
    exact ⟨List.suffix_refl _, hK.mono (by omega), ⟨c', hw⟩, [], by simp⟩
theorem cs_inv {Q : List Enm} : ∀ (f : Nat) (cs cs1 : List Con) (K K1 : List Ko) (l r : List Tok) (c' : Nat), pCs Q.length f cs K l = (some (cs1, K1), r) → CL l → KI Q cs.length K l → Od (cs.map (fun q => q.1)) l → bwk s0 K = some (Q.length + 1, c', false) → r <:+ l ∧ KI Q cs1.length K1 r ∧ Od (cs1.map (fun q => q.1)) r ∧ (∃ c2, bwk s0 K1 = some (Q.length + 1, c2, false)) ∧ ∃ X, K1 = K ++ X := by
  intro f
  induction f with
  | zero => intro cs cs1 K K1 l r c' h; simp [pCs] at h
  | succ f ih =>
    intro cs cs1 K K1 l r c' h hc hK hO hw
    rw [pCs_eq] at h
    unfold pC1 at h
    by_cases q1 : hd l = 128 ∧ cs.length < 12
    · rw [if_pos q1] at h
      cases hp : pArg l.tail with
      | mk o l1 =>
        rw [hp] at h
        cases o with
        | none => simp at h
        | some v =>
          dsimp only at h
          have s1 := (arg_inv hp).trans (List.tail_suffix l)
          cases hb : pBdy Q.length cs.length K l1 with
          | mk o2 l2 =>
            rw [hb] at h
            cases o2 with
            | none => simp at h
            | some bk =>
              obtain ⟨b, K2⟩ := bk
              dsimp only at h
              obtain ⟨i1, i2, ⟨c2, i3⟩, X, i4⟩ := bdy_inv hb (hc.suf s1) (hK.suf s1) hw q1.2
              have s2 := i1.trans s1
              have hO2 : Od ((cs ++ [(plc l, v, b)]).map (fun q => q.1)) l2 := by
                rw [List.map_append]
                exact (hO.add hc (ne_nil (by omega))).suf (i1.trans (arg_inv hp))
              have hK2 : KI Q (cs ++ [(plc l, v, b)]).length K2 l2 := by
                rw [List.length_append, List.length_singleton]
                exact i2
              by_cases q4 : hd l2 = 44
              · rw [if_pos q4] at h
                have s3 := List.tail_suffix l2
                obtain ⟨j1, j2, j3, j4, Y, j5⟩ := ih _ cs1 K2 K1 l2.tail r c2 h (hc.suf (s3.trans s2)) (hK2.suf s3) (hO2.suf s3) i3
                exact ⟨j1.trans (s3.trans s2), j2, j3, j4, _, by rw [j5, i4, List.append_assoc]⟩
              · rw [if_neg q4] at h
                cases h
                exact ⟨s2, hK2, hO2, ⟨c2, i3⟩, X, i4⟩
    · rw [if_neg q1] at h
      simp at h
/-! members -/
def mpl (ms : List Mem) : List Nat := (mks ms).map (fun q => q.2.1)
def PTs (K : List Ko) (e : Nat) (ms : List Mem) : Prop := ∀ q ∈ ms, (q.1 = 6 → ptr K q.2.2.2 e 0) ∧ (q.1 = 7 → ptr K q.2.2.2 e 1) ∧ (q.1 = 9 → ptr K q.2.2.2 e 2)
def MI (K : List Ko) (e : Nat) (cs : List Con) (ms : List Mem) (l : List Tok) : Prop := Od (nmL cs ms) l ∧ Od (mpl ms) l ∧ PTs K e ms
theorem PTs.app {K X : List Ko} {e : Nat} {ms : List Mem} (h : PTs K e ms) : PTs (K ++ X) e ms := fun q hq => ⟨fun z => ((h q hq).1 z).app, fun z => ((h q hq).2.1 z).app, fun z => ((h q hq).2.2 z).app⟩
theorem PTs.add {K : List Ko} {e : Nat} {ms : List Mem} {q : Mem} (h : PTs K e ms) (h1 : (q.1 = 6 → ptr K q.2.2.2 e 0) ∧ (q.1 = 7 → ptr K q.2.2.2 e 1) ∧ (q.1 = 9 → ptr K q.2.2.2 e 2)) : PTs K e (ms ++ [q]) := fun x hx => by
  rcases List.mem_append.mp hx with z | z
  · exact h x z
  · rw [List.mem_singleton] at z
    rw [z]
    exact h1
theorem mpl_out {ms : List Mem} {q : Mem} (h : q.1 ≠ 9) : mpl (ms ++ [q]) = mpl ms := by
  unfold mpl
  rw [mks_out h]
theorem mm_inv {Q : List Enm} {cs : List Con} {ms ms1 : List Mem} {K K1 : List Ko} {l r : List Tok} {c' : Nat} (h : pMm Q.length ms K l = (some (ms1, K1), r)) (hh : 133 ≤ hd l ∧ hd l ≤ 137) (hc : CL l) (hK : KI Q cs.length K l) (hM : MI K Q.length cs ms l) (hw : bwk s0 K = some (Q.length + 1, c', false)) : r <:+ l ∧ KI Q cs.length K1 r ∧ MI K1 Q.length cs ms1 r ∧ (∃ c2, bwk s0 K1 = some (Q.length + 1, c2, false)) ∧ ∃ X, K1 = K ++ X := by
  obtain ⟨hM1, hM2, hM3⟩ := hM
  have t1 := List.tail_suffix l
  have t2 := (List.tail_suffix l.tail).trans t1
  have t3 := (List.tail_suffix l.tail.tail).trans t2
  have t4 := (List.tail_suffix l.tail.tail.tail).trans t3
  have t5 := (List.tail_suffix l.tail.tail.tail.tail).trans t4
  unfold pMm at h
  by_cases q1 : hd l = 133
  · rw [if_pos q1] at h
    unfold pAbs at h
    by_cases q2 : hd l.tail = 128 ∧ (mbs ms).length < 8
    · rw [if_pos q2] at h
      by_cases q3 : hd l.tail.tail = 59
      · rw [if_pos q3] at h
        cases h
        refine ⟨t3, hK.suf t3, ⟨?_, ?_, hM3.add (by simp)⟩, ⟨c', hw⟩, [], by simp⟩
        · rw [nmL_in (by simp)]
          exact ((hM1.suf t1).add hc.tail (ne_nil (by omega))).suf (List.tail_suffix _)
        · rw [mpl_out (by simp)]
          exact hM2.suf t3
      · rw [if_neg q3] at h
        simp at h
    · rw [if_neg q2] at h
      simp at h
  rw [if_neg q1] at h
  by_cases q1 : hd l = 134
  · rw [if_pos q1] at h
    unfold pDef at h
    by_cases q2 : hd l.tail = 128 ∧ (mbs ms).length < 8
    · rw [if_pos q2] at h
      cases hp : pEx Q.length 0 0 K l.tail.tail with
      | mk o r0 =>
        rw [hp] at h
        cases o with
        | none => simp at h
        | some K2 =>
          cases h
          obtain ⟨e1, ops, e2, e3, e4, e5⟩ := ex_inv hp (hc.suf t2)
          have hs := e1.trans t2
          refine ⟨hs, ?_, ⟨?_, ?_, ?_⟩, ⟨c', ?_⟩, _, e2⟩
          · rw [e2]
            exact (hK.app (ex_no14 e3) (kb_ex e3 (by omega) (by omega))).suf hs
          · rw [nmL_in (by simp)]
            exact ((hM1.suf t1).add hc.tail (ne_nil (by omega))).suf e1
          · rw [mpl_out (by simp)]
            exact hM2.suf hs
          · refine PTs.add (by rw [e2]; exact hM3.app) ⟨fun _ => ⟨ops, 0, e5, e4⟩, by simp, by simp⟩
          · rw [e2, bwk_app, hw]
            exact bwk_ex (so := 0) e3
    · rw [if_neg q2] at h
      simp at h
  rw [if_neg q1] at h
  by_cases q1 : hd l = 135
  · rw [if_pos q1] at h
    unfold pFld at h
    by_cases q2 : hd l.tail = 128 ∧ (fls ms).length < 6
    · rw [if_pos q2] at h
      cases hp : pEx Q.length 1 0 K l.tail.tail with
      | mk o r0 =>
        rw [hp] at h
        cases o with
        | none => simp at h
        | some K2 =>
          cases h
          obtain ⟨e1, ops, e2, e3, e4, e5⟩ := ex_inv hp (hc.suf t2)
          have hs := e1.trans t2
          refine ⟨hs, ?_, ⟨?_, ?_, ?_⟩, ⟨c', ?_⟩, _, e2⟩
          · rw [e2]
            exact (hK.app (ex_no14 e3) (kb_ex e3 (by omega) (by omega))).suf hs
          · rw [nmL_in (by simp)]
            exact ((hM1.suf t1).add hc.tail (ne_nil (by omega))).suf e1
          · rw [mpl_out (by simp)]
            exact hM2.suf hs
          · refine PTs.add (by rw [e2]; exact hM3.app) ⟨by simp, fun _ => ⟨ops, 0, e5, e4⟩, by simp⟩
          · rw [e2, bwk_app, hw]
            exact bwk_ex (so := 1) e3
    · rw [if_neg q2] at h
      simp at h
  rw [if_neg q1] at h
  by_cases q1 : hd l = 136
  · rw [if_pos q1] at h
    unfold pCst at h
    by_cases q2 : hd l.tail = 128 ∧ (fls ms).length < 6
    · rw [if_pos q2] at h
      by_cases q3 : hd l.tail.tail = 61
      · rw [if_pos q3] at h
        by_cases q4 : hd l.tail.tail.tail = 129
        · rw [if_pos q4] at h
          by_cases q5 : hd l.tail.tail.tail.tail = 59
          · rw [if_pos q5] at h
            cases h
            refine ⟨t5, hK.suf t5, ⟨?_, ?_, hM3.add (by simp)⟩, ⟨c', hw⟩, [], by simp⟩
            · rw [nmL_in (by simp)]
              exact ((hM1.suf t1).add hc.tail (ne_nil (by omega))).suf (((List.tail_suffix _).trans (List.tail_suffix _)).trans (List.tail_suffix _))
            · rw [mpl_out (by simp)]
              exact hM2.suf t5
          · rw [if_neg q5] at h
            simp at h
        · rw [if_neg q4] at h
          simp at h
      · rw [if_neg q3] at h
        simp at h
    · rw [if_neg q2] at h
      simp at h
  rw [if_neg q1] at h
  unfold pMk at h
  cases hp : pEx Q.length 2 0 (K ++ [mkK Q.length]) l.tail with
  | mk o r0 =>
    rw [hp] at h
    cases o with
    | none => simp at h
    | some K2 =>
      cases h
      obtain ⟨e1, ops, e2, e3, e4, e5⟩ := ex_inv hp hc.tail
      have hs := e1.trans t1
      refine ⟨hs, ?_, ⟨?_, ?_, ?_⟩, ⟨c', ?_⟩, _, by rw [e2, List.append_assoc]⟩
      · rw [e2]
        exact ((hK.app (by simp [mkK]) (kb_one (by simp [mkK]) (by simp [mkK]) (by simp [mkK]) (by simp [mkK]) (by simp [mkK]) (by simp [mkK]))).app (ex_no14 e3) (kb_ex e3 (by omega) (by omega))).suf hs
      · rw [nmL_out (by simp)]
        exact hM1.suf hs
      · unfold mpl
        rw [mks_in (by simp), List.map_append]
        exact (hM2.add hc (ne_nil (by omega))).suf e1
      · refine PTs.add (by rw [e2, List.append_assoc]; exact hM3.app) ⟨by simp, by simp, fun _ => ⟨ops, 0, ?_, e4⟩⟩
        rw [List.length_append, List.length_singleton] at e5
        exact e5
      · rw [e2, bwk_app, bwk_app, hw]
        show bwk (Q.length + 1, c', true) _ = _
        exact bwk_ex (so := 2) e3
theorem ms_inv {Q : List Enm} {cs : List Con} : ∀ (f : Nat) (ms ms1 : List Mem) (K K1 : List Ko) (l r : List Tok) (c' : Nat), pMs Q.length f ms K l = (some (ms1, K1), r) → CL l → KI Q cs.length K l → MI K Q.length cs ms l → bwk s0 K = some (Q.length + 1, c', false) → r <:+ l ∧ KI Q cs.length K1 r ∧ MI K1 Q.length cs ms1 r ∧ (∃ c2, bwk s0 K1 = some (Q.length + 1, c2, false)) ∧ ∃ X, K1 = K ++ X := by
  intro f
  induction f with
  | zero => intro ms ms1 K K1 l r c' h; simp [pMs] at h
  | succ f ih =>
    intro ms ms1 K K1 l r c' h hc hK hM hw
    rw [pMs] at h
    by_cases q1 : 133 ≤ hd l ∧ hd l ≤ 137
    · rw [if_pos q1] at h
      cases hp : pMm Q.length ms K l with
      | mk o r1 =>
        rw [hp] at h
        cases o with
        | none => simp at h
        | some x =>
          obtain ⟨ms2, K2⟩ := x
          dsimp only at h
          obtain ⟨i1, i2, i3, ⟨c2, i4⟩, X, i5⟩ := mm_inv hp q1 hc hK hM hw
          obtain ⟨j1, j2, j3, j4, Y, j5⟩ := ih ms2 ms1 K2 K1 r1 r c2 h (hc.suf i1) i2 i3 i4
          exact ⟨j1.trans i1, j2, j3, j4, _, by rw [j5, i5, List.append_assoc]⟩
    · rw [if_neg q1] at h
      cases h
      exact ⟨List.suffix_refl _, hK, hM, ⟨c', hw⟩, [], by simp⟩
/-! enumerations, texts -/
def EI (K : List Ko) (e : Nat) (E : Enm) : Prop := (nmL E.2.1 E.2.2).Pairwise (· < ·) ∧ (mpl E.2.2).Pairwise (· < ·) ∧ PTs K e E.2.2
def GC (K : List Ko) (P : List Enm) : Prop := ∀ x ∈ gvi 0 K, (∃ E, P[x.2.2.1]? = some E ∧ x.2.2.2.2 < E.2.1.length) ∧ ∃ ops, SG K (x.1 + 1) (ops.map (kox x.2.2.1 0 x.2.2.2.2)) ∧ XV ops
def FI (P : List Enm) (K : List Ko) (l : List Tok) : Prop := Od (gpl K) l ∧ KB P.length K ∧ GC K P ∧ (∀ e E, P[e]? = some E → EI K e E) ∧ ∃ a c, bwk s0 K = some (a, c, false)
theorem EI.app {K X : List Ko} {e : Nat} {E : Enm} (h : EI K e E) : EI (K ++ X) e E := ⟨h.1, h.2.1, h.2.2.app⟩
theorem en_inv {P P1 : List Enm} {K K1 : List Ko} {l r : List Tok} (h : pEn P K l = (some (P1, K1), r)) (hc : CL l) (hF : FI P K l) : r <:+ l ∧ FI P1 K1 r := by
  obtain ⟨f1, f2, f3, f4, a, c, f5⟩ := hF
  unfold pEn at h
  by_cases q1 : hd l = 128 ∧ P.length < 8
  · rw [if_pos q1] at h
    by_cases q2 : hd l.tail = 123
    · rw [if_pos q2] at h
      have t2 := (List.tail_suffix l.tail).trans (List.tail_suffix l)
      have hK0 : KI P ([] : List Con).length (K ++ [enK P.length]) l.tail.tail := by
        have hK : KI P 0 K l := ⟨f1, fun q hq => ⟨by have := (f2 q hq).1; omega, (f2 q hq).2⟩, fun x hx => ⟨Or.inl (f3 x hx).1, (f3 x hx).2⟩⟩
        exact (hK.app (by simp [enK]) (kb_one (by simp [enK]) (by simp [enK]) (by simp [enK]) (by simp [enK]) (by simp [enK]; omega) (by simp [enK]))).suf t2
      have hw0 : bwk s0 (K ++ [enK P.length]) = some (P.length + 1, c, false) := by
        rw [bwk_app, f5]
        rfl
      cases h1 : pCns P.length (K ++ [enK P.length]) l.tail.tail with
      | mk o r1 =>
        rw [h1] at h
        cases o with
        | none => simp at h
        | some x =>
          obtain ⟨cs, K2⟩ := x
          dsimp only at h
          have ci : r1 <:+ l.tail.tail ∧ KI P cs.length K2 r1 ∧ Od (cs.map (fun q => q.1)) r1 ∧ (∃ c2, bwk s0 K2 = some (P.length + 1, c2, false)) ∧ ∃ X, K2 = (K ++ [enK P.length]) ++ X := by
            unfold pCns at h1
            by_cases q3 : hd l.tail.tail = 128
            · rw [if_pos q3] at h1
              exact cs_inv 14 [] cs _ K2 _ r1 c h1 (hc.suf t2) hK0 (Od.nil _) hw0
            · rw [if_neg q3] at h1
              cases h1
              exact ⟨List.suffix_refl _, hK0, Od.nil _, ⟨c, hw0⟩, [], by simp⟩
          obtain ⟨i1, i2, i3, ⟨c2, i4⟩, X, i5⟩ := ci
          have s1 := i1.trans t2
          cases h2 : pMbs P.length K2 r1 with
          | mk o2 r2 =>
            rw [h2] at h
            cases o2 with
            | none => simp at h
            | some y =>
              obtain ⟨ms, K3⟩ := y
              dsimp only at h
              have hMI0 : MI K2 P.length cs [] r1 := ⟨by show Od (cs.map (fun q => q.1) ++ []) r1; rw [List.append_nil]; exact i3, Od.nil _, fun q hq => by simp at hq⟩
              have mi : r2 <:+ r1 ∧ KI P cs.length K3 r2 ∧ MI K3 P.length cs ms r2 ∧ (∃ c3, bwk s0 K3 = some (P.length + 1, c3, false)) ∧ ∃ Y, K3 = K2 ++ Y := by
                unfold pMbs at h2
                by_cases q3 : hd r1 = 59
                · rw [if_pos q3] at h2
                  have s3 := List.tail_suffix r1
                  obtain ⟨j1, j2, j3, j4, j5⟩ := ms_inv 2002 [] ms K2 K3 r1.tail r2 c2 h2 (hc.suf (s3.trans s1)) (i2.suf s3) ⟨hMI0.1.suf s3, Od.nil _, hMI0.2.2⟩ i4
                  exact ⟨j1.trans s3, j2, j3, j4, j5⟩
                · rw [if_neg q3] at h2
                  cases h2
                  exact ⟨List.suffix_refl _, i2, hMI0, ⟨c2, i4⟩, [], by simp⟩
              obtain ⟨j1, j2, j3, ⟨c3, j4⟩, Y, j5⟩ := mi
              by_cases q5 : hd r2 = 125
              · rw [if_pos q5] at h
                cases h
                have s4 := List.tail_suffix r2
                refine ⟨s4.trans (j1.trans s1), j2.1.suf s4, ?_, fun x hx => ?_, fun e E hE => ?_, _, _, j4⟩
                · rw [List.length_append, List.length_singleton]
                  exact j2.2.1
                · obtain ⟨a, b⟩ := j2.2.2 x hx
                  refine ⟨?_, b⟩
                  rcases a with ⟨E, a1, a2⟩ | ⟨a1, a2⟩
                  · exact ⟨E, by rw [List.getElem?_append_left (get_lt a1)]; exact a1, a2⟩
                  · exact ⟨_, by rw [a1]; exact get_app, a2⟩
                · rcases ap_get hE with ⟨a, b⟩ | ⟨a, b⟩
                  · have := f4 e E b
                    rw [j5, i5, List.append_assoc, List.append_assoc]
                    exact this.app
                  · subst a
                    subst b
                    exact ⟨j3.1.1, j3.2.1.1, j3.2.2⟩
              · rw [if_neg q5] at h
                simp at h
    · rw [if_neg q2] at h
      simp at h
  · rw [if_neg q1] at h
    simp at h
theorem tx_inv : ∀ (f : Nat) (P P1 : List Enm) (K K1 : List Ko) (l r : List Tok), pTx f P K l = (some (P1, K1), r) → CL l → FI P K l → FI P1 K1 r := by
  intro f
  induction f with
  | zero => intro P P1 K K1 l r h; simp [pTx] at h
  | succ f ih =>
    intro P P1 K K1 l r h hc hF
    rw [pTx] at h
    by_cases q0 : hd l = 130
    · rw [if_pos q0] at h
      cases h
      exact hF
    rw [if_neg q0] at h
    by_cases q1 : hd l = 132
    · rw [if_pos q1] at h
      cases hp : pEn P K l.tail with
      | mk o r1 =>
        rw [hp] at h
        cases o with
        | none => simp at h
        | some x =>
          obtain ⟨P2, K2⟩ := x
          dsimp only at h
          have s1 := List.tail_suffix l
          obtain ⟨i1, i2⟩ := en_inv hp hc.tail ⟨hF.1.suf s1, hF.2⟩
          exact ih P2 P1 K2 K1 r1 r h (hc.suf (i1.trans s1)) i2
    · rw [if_neg q1] at h
      simp at h
theorem fi_text {B : Nat → Int32} {len : Nat} {P : List Enm} {K : List Ko} {r : List Tok} (hT : Tx B len) (hB : By B len) (h : pTx 9 [] [] (tks B len 0) = (some (P, K), r)) : FI P K r := tx_inv 9 [] P [] K _ r h (cl_tks hT hB) ⟨Od.nil _, fun q hq => by simp at hq, fun x hx => by simp [gvi] at hx, fun e E hE => by simp at hE, 0, 0, rfl⟩
