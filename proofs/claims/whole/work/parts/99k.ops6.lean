/-! ===== L2: call ===== -/
/-- the reference's text, whatever was read last -/
def TN (m : MM) (d tt len : Nat) (B : Nat → Int32) : Prop := gI m d 4 = nI tt ∧ tt ≤ 1 ∧ Tx B len ∧ ∀ i, i < len → gI m (d + 2) (2000 * tt + i) = B i
theorem ms_sameL {G : GG} {m : MM} {d tt len a b n : Nat} {B : Nat → Int32} (hL : LM G m d) (hT : TN m d tt len B) (ha : a < 4096) (hb : b < 4096) (h1 : n ≤ len - a) (h2 : n ≤ len - b) : ∀ (fu k : Nat), n - k < fu → k ≤ n → B_X11_isSame_16 G fu d (nI a) (nI n) (nI b) true (nI k) m = some (sm B B (a + k) (b + k) (n - k), m) := by
  obtain ⟨t1, t2, t4, t5⟩ := hT
  have hl := t4.1
  intro fu
  induction fu with
  | zero => intro k h; omega
  | succ fu ih =>
    intro k hf hk
    rw [B_X11_isSame_16]
    by_cases q : n ≤ k
    · rw [if_pos ((nI_leI (by omega) (by omega)).mpr q), show n - k = 0 by omega]
      rfl
    · rw [if_neg (fun z => q ((nI_leI (by omega) (by omega)).mp z)), if_pos rfl, nb_e (mr_2 hL), mz_2 hL, t1, show (2000 : Int32) = nI 2000 from rfl, pk_mul, nI_add, nI_add, nI_add, nI_add, ib_n (by omega) (by omega), ib_n (by omega) (by omega), nI_clamp (by omega), nI_clamp (by omega), show 2000 * tt + a + k = 2000 * tt + (a + k) by omega, show 2000 * tt + b + k = 2000 * tt + (b + k) by omega, t5 _ (by omega), t5 _ (by omega), nI_1, show n - k = (n - (k + 1)) + 1 by omega, sm]
      by_cases e : B (a + k) = B (b + k)
      · rw [if_pos e, if_pos e, ih (k + 1) (by omega) (by omega)]
        rfl
      · rw [if_neg e, if_neg e]
        cases fu with
        | zero => omega
        | succ fu =>
          rw [B_X11_isSame_16]
          by_cases q2 : n ≤ k + 1
          · rw [if_pos ((nI_leI (by omega) (by omega)).mpr q2)]
          · rw [if_neg (fun z => q2 ((nI_leI (by omega) (by omega)).mp z)), if_neg ff]
theorem ms_same {G : GG} {m : MM} {d tt len a b : Nat} {B : Nat → Int32} (hL : LM G m d) (hT : TN m d tt len B) (ha : a < 4096) (hb : b < 4096) : M_X11_isSame G d (nI a) (nI (nl B a)) (nI b) (nI (nl B b)) m = some (nmEq B a b, m) := by
  have hl := hT.2.2.1.1
  have h1 := nl_le hT.2.2.1 a
  have h2 := nl_le hT.2.2.1 b
  unfold M_X11_isSame nmEq
  by_cases q : nl B a = nl B b
  · rw [if_pos (by rw [q]), show (0 : Int32) = nI 0 from rfl, ms_sameL hL hT ha hb h1 (by omega) FU 0 (by unfold FU; omega) (by omega), decide_eq_true q.symm, Bool.and_true]
    rfl
  · rw [if_neg (fun z => q ((nI_eq (by omega) (by omega)).mp z)), decide_eq_false (fun z => q z.symm), Bool.and_false, show FU = (FU - 1) + 1 from rfl, B_X11_isSame_16]
    by_cases q2 : nI (nl B a) ≤ 0
    · rw [if_pos q2]
    · rw [if_neg q2, if_neg ff]
theorem ms_giveL {G : GG} {m : MM} {d tt len en c p : Nat} {B : Nat → Int32} {K : List Ko} {P : List Enm} (h1 : LM G m d) (h2 : TN m d tt len B) (h4 : GV m d tt B K) (h5 : PB P) (h6 : (gvi 0 K).length ≤ 500) (h7 : KB P.length K) (h8 : GC K P) (hp : p < 4096) (hen : en < 8) (hc : c < 12) : ∀ (fu k : Nat), (gvi 0 K).length - k < fu → k ≤ (gvi 0 K).length → B_X11_giveBy_10 G fu d (nI (12 * (8 * tt + en) + c)) (nI p) (nI (nl B p)) (nI (520 * tt + k)) m = some (oA (520 * tt) (gvF B en c p ((gvi 0 K).drop k) k), m) := by
  have ht := h2.2.1
  intro fu
  induction fu with
  | zero => intro k h; omega
  | succ fu ih =>
    intro k hf hk
    rw [B_X11_giveBy_10, nb_e (mr_27 h1), mz_27 h1, h2.1, ib_n (by omega) (by omega), nI_clamp (by omega), h4.1, show (520 : Int32) = nI 520 from rfl, pk_mul, nI_add]
    by_cases q : (gvi 0 K).length ≤ k
    · rw [if_pos ((nI_leI (by omega) (by omega)).mpr (by omega)), List.drop_of_length_le q]
      rfl
    · obtain ⟨x, hx⟩ := lt_get (show k < (gvi 0 K).length by omega)
      obtain ⟨c1, c2, c3, -⟩ := h4.2 k x hx
      have hxm := List.mem_of_getElem? hx
      obtain ⟨⟨E, e1, e2⟩, -⟩ := h8 x hxm
      have hE := pb_en h5 e1
      have hpx : x.2.1.2.1 < 4096 := by
        have := gvi_mem K 0 x hxm
        exact (h7 x.2 this.1).2.2.1 this.2
      rw [if_neg (fun z => q (by have := (nI_leI (by omega) (by omega)).mp z; omega)), nb_e (mr_28 h1), mz_28 h1, ib_n (by omega) (by omega), nI_clamp (by omega), c1, nI_1, show (gvi 0 K).drop k = x :: (gvi 0 K).drop (k + 1) from (List.drop_eq_getElem_cons (get_lt hx)).trans (by rw [(List.getElem?_eq_some_iff.mp hx).2]), gvF]
      have eqi : nI (12 * (8 * tt + x.2.2.1) + x.2.2.2.2) = nI (12 * (8 * tt + en) + c) ↔ x.2.2.1 = en ∧ x.2.2.2.2 = c := by
        rw [nI_eq (by omega) (by omega)]
        omega
      by_cases z : x.2.2.1 = en ∧ x.2.2.2.2 = c
      · rw [if_pos (eqi.mpr z), nb_e (mr_29 h1), mz_29 h1, ib_n (by omega) (by omega), nb_e (mr_30 h1), mz_30 h1, ib_n (by omega) (by omega), c2, c3, bd_e (ms_same h1 h2 hpx hp)]
        by_cases w : nmEq B x.2.1.2.1 p = true
        · rw [if_pos w, if_pos ⟨z.1, z.2, w⟩]
          rfl
        · rw [if_neg w, if_neg (fun u => w u.2.2)]
          exact ih (k + 1) (by omega) (by omega)
      · rw [if_neg (fun u => z (eqi.mp u)), if_neg (fun u => z ⟨u.1, u.2.1⟩)]
        exact ih (k + 1) (by omega) (by omega)
theorem ms_giveBy {G : GG} {m : MM} {d tt len en c p : Nat} {B : Nat → Int32} {K : List Ko} {P : List Enm} (h1 : LM G m d) (h2 : TN m d tt len B) (h4 : GV m d tt B K) (h5 : PB P) (h6 : (gvi 0 K).length ≤ 500) (h7 : KB P.length K) (h8 : GC K P) (hp : p < 4096) (hen : en < 8) (hc : c < 12) : M_X11_giveBy G d (nI (12 * (8 * tt + en) + c)) (nI p) (nI (nl B p)) m = some (oA (520 * tt) (gvF B en c p (gvi 0 K) 0), m) := by
  have := ms_giveL h1 h2 h4 h5 h6 h7 h8 hp hen hc FU 0 (by unfold FU; omega) (by omega)
  unfold M_X11_giveBy
  rw [h2.1, show (520 : Int32) = nI 520 from rfl, pk_mul, show 520 * tt = 520 * tt + 0 from rfl, this]
  simp
/-- names of members are told once -/
theorem mb_first {B : Nat → Int32} {P : List Enm} {K : List Ko} {e i : Nat} {E : Enm} {y : Mem} (hO : OKP B P K) (hE : P[e]? = some E) (hy : (mbs E.2.2)[i]? = some y) : fn B y.2.1 (mbp E) = some i := by
  have hm : (mbp E)[i]? = some y.2.1 := by unfold mbp; rw [List.getElem?_map, hy]; rfl
  obtain ⟨j, hj, hji⟩ := fn_self (B := B) hm
  obtain ⟨p, a, b, -⟩ := fn_some.mp hj
  by_cases w : j = i
  · rw [hj, w]
  · exfalso
    have pw := (hO.2.2.2.1 e E hE).1
    -- two places in the row of all names
    have hpw : (mbp E).Pairwise (· < ·) := by
      have hs : (mbp E).Sublist (nmL E.2.1 E.2.2) := by
        unfold mbp nmL nmM mbs
        refine List.Sublist.trans ?_ (List.sublist_append_right _ _)
        apply List.Sublist.map
        rw [show (List.filter (fun q : Mem => decide (q.1 = 5) || decide (q.1 = 6)) E.2.2) = List.filter (fun q : Mem => decide (q.1 = 5) || decide (q.1 = 6)) (List.filter (fun q : Mem => !decide (q.1 = 9)) E.2.2) from ?_]
        · exact List.filter_sublist
        · rw [List.filter_filter]
          apply List.filter_congr
          intro q _
          by_cases h5 : q.1 = 5
          · simp [h5]
          · by_cases h6 : q.1 = 6
            · simp [h6]
            · simp [h5, h6]
      exact pw.sublist hs
    have hlt := (pw_lt hpw a hm).mp (by omega)
    exact hO.2.2.2.2.1 (2, y.2.1) (Or.inl ⟨e, E, hE, Or.inr (Or.inr (Or.inl ⟨y.2.1, Or.inl (List.mem_of_getElem? hm), ⟨p, Or.inl (List.mem_of_getElem? a), hlt, b.sy⟩, rfl⟩))⟩)
/-- the exp of a member for a constant, by both -/
theorem call_code {B : Nat → Int32} {P : List Enm} {K : List Ko} {gc : Nat → Nat → Nat → Int32} {e c i : Nat} {E : Enm} {y : Mem} (hO : OKP B P K) (hG : GP B P (gvi 0 K) gc) (hE : P[e]? = some E) (hc : c < E.2.1.length) (hy : (mbs E.2.2)[i]? = some y) : (∃ k x, gvF B e c y.2.1 (gvi 0 K) 0 = some k ∧ (gvi 0 K)[k]? = some x ∧ gc e c i = nI (x.1 + 1) ∧ x.1 < 2000 ∧ ptr K (x.1 + 1) e 0) ∨ (gvF B e c y.2.1 (gvi 0 K) 0 = none ∧ gc e c i = -1 ∧ y.1 = 6 ∧ ptr K y.2.2.2 e 0) := by
  have hfn := mb_first hO hE hy
  have hh : ∀ x, (x.2.2.1 = e ∧ x.2.2.2.2 = c ∧ NE B x.2.1.2.1 y.2.1) ↔ hit B P e c i x := fun x => by
    constructor
    · intro ⟨a, b, z⟩
      exact ⟨a, b, E, hE, by rw [fn_cg z]; exact hfn⟩
    · intro ⟨a, b, E', z1, z2⟩
      rw [hE] at z1
      cases z1
      obtain ⟨p, u1, u2, -⟩ := fn_some.mp z2
      obtain ⟨p', v1, v2, -⟩ := fn_some.mp hfn
      rw [u1] at v1
      cases v1
      exact ⟨a, b, u2.tr v2.sy⟩
  obtain ⟨y1, y2⟩ := List.mem_filter.mp (List.mem_of_getElem? hy)
  simp only [Bool.or_eq_true, decide_eq_true_eq] at y2
  rcases hG e c i with ⟨g1, g2⟩ | ⟨k, x, g1, g2, g3, g4, g5⟩
  · have hn : gvF B e c y.2.1 (gvi 0 K) 0 = none := gvF_none _ _ |>.mpr (fun x hx z => g2 x hx ((hh x).mp z))
    refine Or.inr ⟨hn, g1, ?_, ?_⟩
    · rcases y2 with w | w
      · exfalso
        obtain ⟨q, hq⟩ := lt_get hc
        exact hO.2.2.2.2.1 (4, q.1) (Or.inl ⟨e, E, hE, Or.inr (Or.inr (Or.inr ⟨c, q, hq, y, List.mem_of_getElem? hy, ⟨w, hn⟩, rfl⟩))⟩)
      · exact w
    · rcases y2 with w | w
      · exfalso
        obtain ⟨q, hq⟩ := lt_get hc
        exact hO.2.2.2.2.1 (4, q.1) (Or.inl ⟨e, E, hE, Or.inr (Or.inr (Or.inr ⟨c, q, hq, y, List.mem_of_getElem? hy, ⟨w, hn⟩, rfl⟩))⟩)
      · exact ((hO.2.2.2.1 e E hE).2.2 y y1).1 w
  · cases hv : gvF B e c y.2.1 (gvi 0 K) 0 with
    | none => exact absurd ((hh x).mpr g2) ((gvF_none _ _).mp hv x (List.mem_of_getElem? g1))
    | some k' =>
      obtain ⟨j, x', e1, e2, e3, e4, e5, e6⟩ := gvF_some _ _ _ hv
      have hk' : k' = j := by omega
      have ek : j = k := by
        rcases Nat.lt_or_ge j k with w | w
        · exact absurd ((hh x').mp ⟨e3, e4, e5⟩) (g3 j x' w e2)
        · rcases Nat.lt_or_ge k j with w' | w'
          · exact absurd ((hh x).mpr g2) (e6 k x w' g1)
          · omega
      rw [ek] at hk' e2
      rw [g1] at e2
      cases e2
      obtain ⟨-, ops, o1, o2⟩ := hO.2.2.1 x (List.mem_of_getElem? g1)
      refine Or.inl ⟨k', x, rfl, by rw [hk']; exact g1, g4, g5, ops, x.2.2.2.2, ?_, o2⟩
      rw [← e3]
      exact o1
theorem mr_call {G : GG} {m : MM} {d tt e c a : Nat} {B : Nat → Int32} {K : List Ko} {P : List Enm} {E : Enm} {g : Sg} {fc : Int32} (hO : OKP B P K) (hK : (aK K).length ≤ 2000) (hE : P[e]? = some E) (hc : c < E.2.1.length) (hI : ISg P g) (h1 : g.1 e = 1) (hp : ptr K a e 0) (h : RC G m d tt B K P g [] [] 0 fc) : ∃ m1, B_X11_call_157 G d d (nI e) (nI c) (nI (ct K a)) (nI (ct K a + (seg K a).length)) m = some (if (xrun (wnt B P K 10) B P e E c (seg K a) [] g).1 = 0 then xhd (xrun (wnt B P K 10) B P e E c (seg K a) [] g).2.1 else 0, m1) ∧ RN G m1 d tt B K P (xrun (wnt B P K 10) B P e E c (seg K a) [] g).2.2 (xrun (wnt B P K 10) B P e E c (seg K a) [] g).1 (if (xrun (wnt B P K 10) B P e E c (seg K a) [] g).1 = 0 then fc else fc + 1) ∧ OMr m m1 d := by
  have h8 := zc_8 g
  have he := get_lt hE
  obtain ⟨m1, e1, e2, e3⟩ := mr_frame (e := e) (c := c) (y := some (ct K a, ct K a + (seg K a).length)) h (by simp) ⟨rfl, rfl⟩
  obtain ⟨⟨m2, j, r1, r2, r3, r4, r5⟩, r6, r7⟩ := mr_run (c := c) hO hK (mr_hr (G := G) (d := d) (tt := tt) hO hK 10 0) hE hp (fun _ => hc) (fun z hz => by simp at hz) (by simp) (by omega) (by simp) e2 hI (Or.inr h1) (fun _ => h1) (by omega) (by omega)
  have hk6 := xrun_k (B := B) (P := P) (e := e) (c := c) (E := E) (wnt_k (B := B) (P := P) (K := K) 10) (seg K a) [] g
  unfold B_X11_call_157
  rw [bd_e e1]
  by_cases k : (xrun (wnt B P K 10) B P e E c (seg K a) [] g).1 = 0
  · obtain ⟨v, hv⟩ := r6 k
    have r4 := r4 k
    rw [hv] at r4
    have g0 := wk_end0 r4 r7
    obtain ⟨p1, p2⟩ := r4.popF
    rw [List.length_nil] at p1 p2
    have v51 : gI (sI m2 d 64 (nI 0)) (d + 51) 0 = v := p1.2.2.2.2.1.2.1
    rw [bd_e (wk_all (r1.tr g0) p1 (by omega)), p1.2.2.2.2.2.1, if_pos nI_0, nb_e (mr_69 p1.1.1), mz_69 p1.1.1, if_pos k, if_pos k, k, hv]
    refine ⟨sI m2 d 64 (nI 0), ?_, p1.rn, e3.tr (r2.tr p2)⟩
    have e0 : (0 : Int32).toNatClampNeg = 0 := by decide
    rw [e0, v51, ib_e (by rw [← nI_0]; exact vp_in_nI (by omega) (by omega))]
    rfl
  · have r5 := r5 k
    rw [bd_e (wk_all r1 r5 (by omega)), r5.2.2.2.2.2.1, if_neg (nk0 hk6 k), if_neg k, if_neg k]
    exact ⟨m2, rfl, r5.rn, e3.tr r2⟩
