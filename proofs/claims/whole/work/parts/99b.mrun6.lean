/-! ===== L2: the reference's run: exps whole ===== -/
theorem xop_len {W : Nat → Sg → Nat × Sg} {B : Nat → Int32} {P : List Enm} {e c kk : Nat} {E : Enm} {q : Ko} {r : List Op} {vs : List Int32} {g : Sg} (ho : 1 ≤ q.1.1 ∧ q.1.1 ≤ 11) (hdp : dp vs.length (q.1 :: r) = some kk) (hv : vs.length ≤ 21) (hk : (xop W B P e E c q vs g).1 = 0) : dp (xop W B P e E c q vs g).2.1.length r = some kk ∧ (xop W B P e E c q vs g).2.1.length ≤ 21 := by
  rw [dp] at hdp
  by_cases h6 : q.1.1 ≤ 6
  · rw [if_pos h6] at hdp
    by_cases z : vs.length < 21
    · rw [if_pos z] at hdp
      have : ∃ v, (xop W B P e E c q vs g).2.1 = v :: vs := by
        unfold xop at hk ⊢
        rcases (show q.1.1 = 1 ∨ q.1.1 = 2 ∨ q.1.1 = 3 ∨ q.1.1 = 4 ∨ q.1.1 = 5 ∨ q.1.1 = 6 by omega) with w | w | w | w | w | w
        · rw [if_pos w]; exact ⟨_, rfl⟩
        · rw [if_neg (by omega), if_pos w]; exact ⟨_, rfl⟩
        · rw [if_neg (by omega), if_neg (by omega), if_pos w] at hk ⊢
          unfold xcn at hk ⊢
          by_cases k : (W (rct B P q).1 g).1 = 0
          · rw [if_pos k] at hk ⊢
            by_cases k2 : (W (rct B P q).1 g).2.1 (rct B P q).1 = 3 ∧ (W (rct B P q).1 g).2.2.1 (rct B P q).1 ≤ (rct B P q).2
            · rw [if_pos k2] at hk
              cases hk
            · rw [if_neg k2]; exact ⟨_, rfl⟩
          · rw [if_neg k] at hk
            exact absurd hk k
        · rw [if_neg (by omega), if_neg (by omega), if_neg (by omega), if_pos w]; exact ⟨_, rfl⟩
        · rw [if_neg (by omega), if_neg (by omega), if_neg (by omega), if_neg (by omega), if_pos w]; exact ⟨_, rfl⟩
        · rw [if_neg (by omega), if_neg (by omega), if_neg (by omega), if_neg (by omega), if_neg (by omega), if_pos w]; exact ⟨_, rfl⟩
      obtain ⟨v, hv⟩ := this
      rw [hv, List.length_cons]
      exact ⟨hdp, by omega⟩
    · rw [if_neg z] at hdp
      cases hdp
  · rw [if_neg h6] at hdp
    by_cases h7 : q.1.1 = 7
    · rw [if_pos h7] at hdp
      have ex : xop W B P e E c q vs g = (0, xng vs, g) := by unfold xop; rw [if_neg (by omega), if_neg (by omega), if_neg (by omega), if_neg (by omega), if_neg (by omega), if_neg (by omega), if_pos h7]
      rw [ex]
      cases vs with
      | nil => simp at hdp
      | cons x l =>
        rw [if_pos (by simp)] at hdp
        exact ⟨hdp, hv⟩
    · rw [if_neg h7] at hdp
      have ex : xop W B P e E c q vs g = xjn q.1.1 vs g := by unfold xop; rw [if_neg (by omega), if_neg (by omega), if_neg (by omega), if_neg (by omega), if_neg (by omega), if_neg (by omega), if_neg (by omega)]
      rw [ex] at hk ⊢
      cases vs with
      | nil => simp at hdp
      | cons y l =>
        cases l with
        | nil => simp at hdp
        | cons x l =>
          rw [if_pos (by simp)] at hdp
          rw [xjn_eq] at hk ⊢
          by_cases u : q.1.1 = 11 ∧ y = 0
          · rw [if_pos u] at hk
            cases hk
          · rw [if_neg u]
            simp only [List.length_cons] at hdp hv ⊢
            exact ⟨hdp, by omega⟩
theorem mr_step {G : GG} {m : MM} {d tt e c a b so D dd : Nat} {B : Nat → Int32} {K : List Ko} {P : List Enm} {E : Enm} {q : Ko} {r : List Op} {g : Sg} {fr : List Fr} {vs ss : List Int32} {fc : Int32} (hP : PB P) (hK : (aK K).length ≤ 2000) (hR : HR G d tt B K P D dd (wnt B P K D)) (hE : P[e]? = some E) (hq : (aK K)[a]? = some q) (hok : okQ B P q) (hqe : q.2.1 = e) (hqs : q.2.2.1 = so) (hst : g.1 e = 3 ∨ g.1 e = 1) (hs0 : so = 0 → g.1 e = 1) (hcc : so ≠ 1 → c < E.2.1.length) (hI : ISg P g) (hdp : ∃ k, dp vs.length (q.1 :: r) = some k) (h : RC G m d tt B K P g ((e, c, some (a, b)) :: fr) (vs ++ ss) 0 fc) (hf : FOK P fr) (hl : fr.length ≤ 2 * dd) (hd8 : dd ≤ 8) (hss : ss.length ≤ 21 * dd) (hv : vs.length ≤ 21) (hab : a < b) (hb : b < 3000) (hz : zc g < D) (hd : dd + zc g ≤ 8) : RES G d tt B K P m g ((e, c, some (a + 1, b)) :: fr) ((xop (wnt B P K D) B P e E c q vs g).2.1 ++ ss) fc 2 (xop (wnt B P K D) B P e E c q vs g).1 (xop (wnt B P K D) B P e E c q vs g).2.2 (ens fr) := by
  have he := get_lt hE
  have hlen : (vs ++ ss).length = vs.length + ss.length := List.length_append
  have hf2 : FOK P ((e, c, some (a, b)) :: fr) := fun z hz => by
    rcases List.mem_cons.mp hz with w | w
    · rw [w]
      exact ⟨he, fun x hx => by cases hx; exact ⟨by show a < 3000; omega, hb⟩⟩
    · exact hf z w
  by_cases h3 : q.1.1 = 3
  · have ex : xop (wnt B P K D) B P e E c q vs g = xcn (rct B P q).2 (rct B P q).1 vs (wnt B P K D (rct B P q).1 g) := by unfold xop; rw [if_neg (by omega), if_neg (by omega), if_pos h3]
    rw [ex]
    by_cases h0 : g.1 (rct B P q).1 = 0
    · obtain ⟨E', hE', hc', ha, -⟩ := mr_const hP hK hq hok h3 h (by omega)
      obtain ⟨m1, m2, j, r1, r2, r3, r4, r5, r6, r7⟩ := hR (rct B P q).1 E' m g _ _ fc hE' h0 h hI hf2 hz hd (by rw [List.length_cons]; omega) (by omega)
      rw [h0, if_pos nI_0, bd_e r1] at ha
      have go1 := wk_act h (by omega) hab hb ha
      by_cases k : (wnt B P K D (rct B P q).1 g).1 = 0
      · obtain ⟨r6, r8⟩ := r6 k
        have hI1 := (wnt_gs (B := B) (K := K) D (rct B P q).1 g).2 hI
        obtain ⟨m3, c1, c2, c3, c4, c5⟩ := mr_const1 (r := (0, (wnt B P K D (rct B P q).1 g).2)) hP hK hq hok h3 r6 hf2 (by omega) (by omega) hI1 (by rw [r8]; decide) (by rw [r8]; rfl)
        have er : wnt B P K D (rct B P q).1 g = (0, (wnt B P K D (rct B P q).1 g).2) := by rw [← k]
        have go2 := wk_act r6 (by omega) hab hb c1
        rw [er]
        rw [c5]
        exact ⟨m3, 1 + (j + 1), (go1.tr r3).tr go2, r2.tr (r4.tr c2), by omega, c3, c4⟩
      · have e1 : xcn (rct B P q).2 (rct B P q).1 vs (wnt B P K D (rct B P q).1 g) = ((wnt B P K D (rct B P q).1 g).1, vs, (wnt B P K D (rct B P q).1 g).2) := by unfold xcn; rw [if_neg k]
        rw [e1]
        exact ⟨m2, j + 1, go1.tr r3, r2.tr r4, by show j + 1 + 80000 * zc (wnt B P K D (rct B P q).1 g).2 ≤ 2 + 80000 * zc g; omega, fun z => absurd z k, r7⟩
    · have er : wnt B P K D (rct B P q).1 g = if g.1 (rct B P q).1 = 2 then (6, g) else (0, g) := by
        cases D with
        | zero => omega
        | succ D => rw [wnt, if_neg (c := g.1 (rct B P q).1 = 0) h0]
      obtain ⟨m3, c1, c2, c3, c4, c5⟩ := mr_const1 hP hK hq hok h3 h hf2 (by omega) (by omega) hI h0 er
      rw [c5]
      exact ⟨m3, 1, wk_act h (by omega) hab hb c1, c2, by omega, c3, c4⟩
  · obtain ⟨m1, e1, e2, e3, e4⟩ := mr_act (W := wnt B P K D) hP hK hE hq hok hqe hqs h3 hst hs0 hcc hI hdp h hf2 (by omega) (by omega)
    have hz2 := (xop_gs (B := B) (e := e) (c := c) (E := E) (q := q) (vs := vs) (g := g) (wnt_gs (B := B) (P := P) (K := K) D)).zc
    exact ⟨m1, 1, wk_act h (by omega) hab hb e1, e2, by omega, e3, e4⟩
theorem mr_exp {G : GG} {d tt e c c0 b so D dd : Nat} {B : Nat → Int32} {K : List Ko} {P : List Enm} {E : Enm} {fr : List Fr} {ss : List Int32} {fc : Int32} (hO : OKP B P K) (hK : (aK K).length ≤ 2000) (hR : HR G d tt B K P D dd (wnt B P K D)) (hE : P[e]? = some E) (hcc : so ≠ 1 → c < E.2.1.length) (hf : FOK P fr) (hl : fr.length ≤ 2 * dd) (hd8 : dd ≤ 8) (hss : ss.length ≤ 21 * dd) (hb : b < 3000) : ∀ (ops : List Op) (a : Nat) (vs : List Int32) (g : Sg) (m : MM), (∀ i o, ops[i]? = some o → (aK K)[a + i]? = some (kox e so c0 o)) → a + ops.length = b → dp vs.length ops = some 1 → vs.length ≤ 21 → RC G m d tt B K P g ((e, c, some (a, b)) :: fr) (vs ++ ss) 0 fc → ISg P g → (g.1 e = 3 ∨ g.1 e = 1) → (so = 0 → g.1 e = 1) → zc g < D → dd + zc g ≤ 8 → RES G d tt B K P m g ((e, c, some (b, b)) :: fr) ((xrun (wnt B P K D) B P e E c (ops.map (kox e so c0)) vs g).2.1 ++ ss) fc (2 * ops.length) (xrun (wnt B P K D) B P e E c (ops.map (kox e so c0)) vs g).1 (xrun (wnt B P K D) B P e E c (ops.map (kox e so c0)) vs g).2.2 (ens fr) := by
  intro ops
  induction ops with
  | nil =>
    intro a vs g m hops hab hdp hv h hI hst hs0 hz hd
    rw [List.length_nil, Nat.add_zero] at hab
    rw [hab] at h
    exact ⟨m, 0, Go.rf, OMr.rf, by show 0 + 80000 * zc g ≤ 2 * 0 + 80000 * zc g; omega, fun _ => h, fun z => absurd rfl z⟩
  | cons o ops ih =>
    intro a vs g m hops hab hdp hv h hI hst hs0 hz hd
    rw [List.length_cons] at hab
    have hq := hops 0 o rfl
    rw [Nat.add_zero] at hq
    have hok := hO.q _ (List.mem_of_getElem? hq)
    have h0 : g.1 e ≠ 0 := by omega
    obtain ⟨m1, j, s1, s2, s3, s4, s5⟩ := mr_step (b := b) (r := ops) hO.1 hK hR hE hq hok rfl rfl hst hs0 hcc hI ⟨1, hdp⟩ h hf hl hd8 hss hv (by omega) hb hz hd
    have gs := xop_gs (B := B) (e := e) (c := c) (E := E) (q := kox e so c0 o) (vs := vs) (g := g) (wnt_gs (B := B) (P := P) (K := K) D)
    rw [List.map_cons, xrun, List.length_cons]
    by_cases k : (xop (wnt B P K D) B P e E c (kox e so c0 o) vs g).1 = 0
    · rw [if_pos k]
      obtain ⟨l1, l2⟩ := xop_len (r := ops) ⟨hok.1, hok.2.1⟩ hdp hv k
      have hzz := gs.zc
      have hk := gs.1 e h0
      obtain ⟨m2, j2, t1, t2, t3, t4, t5⟩ := ih (a + 1) _ _ m1 (fun i o' ho' => by rw [show a + 1 + i = a + (i + 1) by omega]; exact hops (i + 1) o' (by rw [List.getElem?_cons_succ]; exact ho')) (by omega) l1 l2 (s4 k) (gs.2 hI) (by rw [hk.1]; exact hst) (fun z => by rw [hk.1]; exact hs0 z) (by omega) (by omega)
      exact ⟨m2, j2 + j, s1.tr t1, s2.tr t2, by omega, t4, t5⟩
    · rw [if_neg k]
      exact ⟨m1, j, s1, s2, by omega, fun z => absurd z k, s5⟩
