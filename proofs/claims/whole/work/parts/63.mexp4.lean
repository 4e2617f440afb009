/-! ===== L2: the reference's exp: the whole ===== -/
theorem RE.push {G : GG} {m : MM} {d tt len e x : Nat} {B : Nat → Int32} {A : List Ko} {st : List Nat} {l : List Tok} {F : Option Nat} (h : RE G m d tt len B e A st l F) (hb : A.length + st.length + l.length ≤ 2000) : RE G (sI (sI m (d + 41) st.length (nI (rop x))) d 53 (nI (st.length + 1))) d tt len B e A (x :: st) l F ∧ OE m (sI (sI m (d + 41) st.length (nI (rop x))) d 53 (nI (st.length + 1))) d tt := by
  obtain ⟨g1, g2, g3, g4, g5, g6, g7, g8, g9, g10, g11⟩ := h
  have oh : OE m (sI (sI m (d + 41) st.length (nI (rop x))) d 53 (nI (st.length + 1))) d tt := OE.x.tr (OE.f (by omega) (by omega) (by omega))
  have gd : ∀ k, k ≠ 53 → gI (sI (sI m (d + 41) st.length (nI (rop x))) d 53 (nI (st.length + 1))) d k = gI m d k := fun k hk => by rw [gI_sI_ne (Or.inr hk), gI_sI_ne (Or.inl (by omega))]
  refine ⟨⟨g1.oh oh, g2.oh oh, g3, g4.kept (fun k k1 k2 => gd k (by omega)), g5.kept (fun i i1 i2 i3 => by
    rw [(sI_off (show d + i ≠ d by omega)).1, (sI_off (show d + i ≠ d + 41 by omega)).1]), by rw [gI_sI_eq]; rfl, ⟨?_, ?_⟩, by rw [gd _ (by omega)]; exact g8, g9.kept (fun k k1 k2 => gd k (by omega)), by rw [List.length_cons]; omega, g11⟩, oh⟩
  · rw [gI_sI_ne (Or.inl (by omega)), gI_sI_eq]
  · exact g7.kept (fun j hj => by rw [gI_sI_ne (Or.inl (by omega)), gI_sI_ne (Or.inr (by omega))])
theorem kK_app {e c : Nat} {A0 : List Ko} {out : List Op} {l : List Nat} : A0 ++ out.map (kox e 0 c) ++ xK e c l = A0 ++ (out ++ l.map bop).map (kox e 0 c) := by
  simp [xK, List.map_append, List.map_map, Function.comp_def, List.append_assoc]
theorem popG_all : ∀ (st : List Nat), (∀ y ∈ st, y = 0 ∨ (7 ≤ y ∧ y ≤ 11)) → 0 ∉ st → (popG 1 st).1 = st := by
  intro st
  induction st with
  | nil => intro _ _; rfl
  | cons x l ih =>
    intro hy h0
    have hx := hy x (by simp)
    have hx0 : x ≠ 0 := fun z => h0 (by simp [z])
    simp only [popG]
    rw [if_pos (by rcases (show x = 7 ∨ x = 8 ∨ x = 9 ∨ x = 10 ∨ x = 11 by omega) with rfl | rfl | rfl | rfl | rfl <;> decide)]
    rw [ih (fun y hy' => hy y (by simp [hy'])) (fun z => h0 (by simp [z]))]
/-- what comes of the machine -/
def RS (G : GG) (m : MM) (d tt len : Nat) (B : Nat → Int32) (e c : Nat) (A0 : List Ko) (X : Option (Unit × MM)) (R : Bool × List Op × List Tok) : Prop := ∃ m1, X = some ((), m1) ∧ OE m m1 d tt ∧ (R.1 = true → RE G m1 d tt len B e (A0 ++ R.2.1.map (kox e 0 c)) [] R.2.2 none) ∧ (R.1 = false → ∃ A1 l1, RE G m1 d tt len B e A1 [] l1 (some (plc R.2.2)))
theorem RS.tr {G : GG} {m m0 : MM} {d tt len e c : Nat} {B : Nat → Int32} {A0 : List Ko} {X : Option (Unit × MM)} {R : Bool × List Op × List Tok} (o : OE m0 m d tt) (h : RS G m d tt len B e c A0 X R) : RS G m0 d tt len B e c A0 X R := by
  obtain ⟨m1, h1, h2, h3⟩ := h
  exact ⟨m1, h1, o.tr h2, h3⟩
theorem RS.bad {G : GG} {m : MM} {d tt len e c fu : Nat} {x2 x3 x4 : Int32} {x5 : Bool} {B : Nat → Int32} {A0 A : List Ko} {st : List Nat} {l r : List Tok} {out : List Op} (h : RE G m d tt len B e A st l (some (plc r))) (hl : st.length < 1000) : RS G m d tt len B e c A0 (B_X11_readExp_18 G (fu + 1) d (nI 0) x2 x3 x4 x5 m) (false, out, r) := by
  obtain ⟨m1, e1, e2, e3⟩ := mm_finB (fu := fu) (x2 := x2) (x3 := x3) (x4 := x4) (x5 := x5) h hl
  exact ⟨m1, e1, e2, (fun z => by cases z), fun _ => ⟨_, _, e3⟩⟩
theorem mm_sign {G : GG} {m : MM} {d tt len e de sg k : Nat} {B : Nat → Int32} {A : List Ko} {st : List Nat} {l : List Tok} {k18 : Nat → Int32 → Int32 → Int32 → Int32 → Bool → MM → Option (Unit × MM)} (h : RE G m d tt len B e A st l none) (hk : hd l = k) (hj : jop k ≠ 0) {Y : MM → Option (Unit × MM)} : (bd (M_X11_isAt G d (nI 43) m) fun r_50 m_51 => if r_50 = true then B_X11_readExp_165 G k18 d (nI 0) (nI de) (nI sg) true m_51 else bd (M_X11_isAt G d (nI 45) m_51) fun r_52 m_53 => if r_52 = true then B_X11_readExp_165 G k18 d (nI 0) (nI de) (nI sg) true m_53 else bd (M_X11_isAt G d (nI 42) m_53) fun r_54 m_55 => if r_54 = true then B_X11_readExp_165 G k18 d (nI 0) (nI de) (nI sg) true m_55 else bd (M_X11_isAt G d (nI 47) m_55) fun r_56 m_57 => if r_56 = true then B_X11_readExp_165 G k18 d (nI 0) (nI de) (nI sg) true m_57 else Y m_57) = B_X11_readExp_209 G k18 d (nI 0) (nI de) (nI sg) true (nI (rop (jop k))) m := by
  have i43 := h.isAt (w := 43) (by omega)
  have i45 := h.isAt (w := 45) (by omega)
  have i42 := h.isAt (w := 42) (by omega)
  have i47 := h.isAt (w := 47) (by omega)
  rw [hk] at i43 i45 i42 i47
  unfold B_X11_readExp_165
  have hc : k = 42 ∨ k = 43 ∨ k = 45 ∨ k = 47 := by
    unfold jop at hj
    by_cases a : k = 42
    · exact Or.inl a
    by_cases b : k = 43
    · exact Or.inr (Or.inl b)
    by_cases c : k = 45
    · exact Or.inr (Or.inr (Or.inl c))
    by_cases f : k = 47
    · exact Or.inr (Or.inr (Or.inr f))
    · simp [a, b, c, f] at hj
  simp only [show (43 : Int32) = nI 43 from rfl, show (45 : Int32) = nI 45 from rfl, show (42 : Int32) = nI 42 from rfl]
  rcases hc with rfl | rfl | rfl | rfl
  · have j43 : M_X11_isAt G d (nI 43) m = some (false, m) := i43
    have j45 : M_X11_isAt G d (nI 45) m = some (false, m) := i45
    have j42 : M_X11_isAt G d (nI 42) m = some (true, m) := i42
    have j47 : M_X11_isAt G d (nI 47) m = some (false, m) := i47
    rw [bd_e j43, if_neg ff, bd_e j45, if_neg ff, bd_e j42, if_pos rfl, bd_e j43, if_neg ff, bd_e j45, if_neg ff, bd_e j42, if_pos rfl]
    rfl
  · have j43 : M_X11_isAt G d (nI 43) m = some (true, m) := i43
    have j45 : M_X11_isAt G d (nI 45) m = some (false, m) := i45
    have j42 : M_X11_isAt G d (nI 42) m = some (false, m) := i42
    have j47 : M_X11_isAt G d (nI 47) m = some (false, m) := i47
    rw [bd_e j43, if_pos rfl, bd_e j43, if_pos rfl]
    rfl
  · have j43 : M_X11_isAt G d (nI 43) m = some (false, m) := i43
    have j45 : M_X11_isAt G d (nI 45) m = some (true, m) := i45
    have j42 : M_X11_isAt G d (nI 42) m = some (false, m) := i42
    have j47 : M_X11_isAt G d (nI 47) m = some (false, m) := i47
    rw [bd_e j43, if_neg ff, bd_e j45, if_pos rfl, bd_e j43, if_neg ff, bd_e j45, if_pos rfl]
    rfl
  · have j43 : M_X11_isAt G d (nI 43) m = some (false, m) := i43
    have j45 : M_X11_isAt G d (nI 45) m = some (false, m) := i45
    have j42 : M_X11_isAt G d (nI 42) m = some (false, m) := i42
    have j47 : M_X11_isAt G d (nI 47) m = some (true, m) := i47
    rw [bd_e j43, if_neg ff, bd_e j45, if_neg ff, bd_e j42, if_neg ff, bd_e j47, if_pos rfl, bd_e j43, if_neg ff, bd_e j45, if_neg ff, bd_e j42, if_neg ff]
    rfl
theorem mm_nosign {G : GG} {m : MM} {d tt len e k : Nat} {B : Nat → Int32} {A : List Ko} {st : List Nat} {l : List Tok} {F : Option Nat} (h : RE G m d tt len B e A st l F) (hk : hd l = k) (hj : jop k = 0) {W V Y : MM → Option (Unit × MM)} {U : MM → Option (Unit × MM)} : (bd (M_X11_isAt G d (nI 43) m) fun r_50 m_51 => if r_50 = true then W m_51 else bd (M_X11_isAt G d (nI 45) m_51) fun r_52 m_53 => if r_52 = true then V m_53 else bd (M_X11_isAt G d (nI 42) m_53) fun r_54 m_55 => if r_54 = true then U m_55 else bd (M_X11_isAt G d (nI 47) m_55) fun r_56 m_57 => if r_56 = true then W m_57 else Y m_57) = Y m := by
  have i43 := h.isAt (w := 43) (by omega)
  have i45 := h.isAt (w := 45) (by omega)
  have i42 := h.isAt (w := 42) (by omega)
  have i47 := h.isAt (w := 47) (by omega)
  rw [hk] at i43 i45 i42 i47
  have hc : k ≠ 42 ∧ k ≠ 43 ∧ k ≠ 45 ∧ k ≠ 47 := by
    refine ⟨?_, ?_, ?_, ?_⟩ <;> (intro z; rw [z] at hj; exact absurd hj (by decide))
  rw [bd_e i43, decide_eq_false hc.2.1, if_neg ff, bd_e i45, decide_eq_false hc.2.2.1, if_neg ff, bd_e i42, decide_eq_false hc.1, if_neg ff, bd_e i47, decide_eq_false hc.2.2.2, if_neg ff]
theorem mm_push {G : GG} {m : MM} {d tt len e j : Nat} {x2 x3 : Int32} {B : Nat → Int32} {A : List Ko} {st : List Nat} {l : List Tok} {F : Option Nat} {k18 : Nat → Int32 → Int32 → Int32 → Int32 → Bool → MM → Option (Unit × MM)} (h : RE G m d tt len B e A st l F) (hb : A.length + st.length + l.length ≤ 2000) (hl : st.length < 1000) (hh : hd l ≠ 130) : ∃ m1, B_X11_readExp_281 G k18 d (nI 0) x2 x3 true (nI (rop j)) m = k18 d (nI 0) x2 x3 1 true m1 ∧ RE G m1 d tt len B e A (j :: st) l.tail F ∧ OE m m1 d tt ∧ A.length + (j :: st).length + l.tail.length ≤ 2000 := by
  have h53 := h.2.2.2.2.2.1
  have hL := h.1
  unfold B_X11_readExp_281
  rw [nb_e (mr_52 hL), mz_52 hL, h53, ib_n (by omega) (by omega), nI_clamp (by omega), gI_sI_ne (Or.inl (by omega)), h53, nI_1]
  obtain ⟨p1, p2⟩ := h.push (x := j) hb
  obtain ⟨m1, e1, e2, e3, e4⟩ := p1.next hh
  rw [bd_e e1]
  exact ⟨m1, rfl, e2, p2.tr (e3.oh (by simp)), by omega⟩
theorem mm_loop {G : GG} {d tt len e c : Nat} {B : Nat → Int32} {A0 : List Ko} : ∀ (fu md : Nat) (l : List Tok) (st : List Nat) (de sg : Nat) (out : List Op) (m : MM), RE G m d tt len B e (A0 ++ out.map (kox e 0 c)) st l none → SH st de sg → g7 st → md ≤ 1 → (md = 1 → n7 st) → (A0 ++ out.map (kox e 0 c)).length + st.length + l.length ≤ 2000 → l.length + 2 < fu → RS G m d tt len B e c A0 (B_X11_readExp_18 G fu d (nI 0) (nI de) (nI sg) (if md = 0 then 1 else 0) true m) (pE (md, 0, st, de, sg, out) l) := by
  intro fu
  induction fu with
  | zero => intro md l st de sg out m _ _ _ _ _ _ hf; exact absurd hf (by omega)
  | succ fu ih =>
    intro md l st de sg out m h hS hg hmd hn hb hf
    obtain ⟨s1, s2, s3, s4, s5⟩ := id hS
    have hl26 := hS.l26
    have h0 := h
    have hne : l ≠ [] := by
      obtain ⟨t, rs, p1, z1, -⟩ := h.2.2.2.1
      rw [z1]
      simp
    obtain ⟨t, rs, rfl⟩ : ∃ t rs, l = t :: rs := by
      cases l with
      | nil => exact absurd rfl hne
      | cons t rs => exact ⟨t, rs, rfl⟩
    have bt : t.1 < 256 := by
      obtain ⟨t', rs', p1, z1, z2, z3, z4, z5, z6⟩ := h.2.2.2.1
      exact (z6 t (by simp)).1
    rw [List.length_cons] at hf
    obtain ⟨fu', rfl⟩ : ∃ fu', fu = fu' + 1 := ⟨fu - 1, by omega⟩
    rw [B_X11_readExp_18, if_pos rfl, bd_e h.gT, if_pos rfl]
    by_cases hmd0 : md = 0
    · subst hmd0
      rw [if_pos rfl, if_neg (show ¬ (1 : Int32) = 0 by decide), show (40 : Int32) = nI 40 from rfl, bd_e (h.isAt (by omega)), show (45 : Int32) = nI 45 from rfl, bd_e (h.isAt (by omega))]
      have i40 := h.isAt (w := 40) (by omega)
      -- what opens
      have opens : t.1 = 40 ∨ t.1 = 45 → RS G m d tt len B e c A0 (B_X11_readExp_53 G (B_X11_readExp_18 G (fu' + 1)) d (nI 0) (nI de) (nI sg) 1 true m) (pE (0, 0, st, de, sg, out) (t :: rs)) := by
        intro ho
        have hstp : pE (0, 0, st, de, sg, out) (t :: rs) = if 8 ≤ de then (false, out, t :: rs) else pE (0, 0, (if t.1 = 40 then 0 else 7) :: st, de + 1, sg, out) rs := by
          by_cases q8 : 8 ≤ de
          · rw [if_pos q8]
            refine pE_end (q := (false, out)) ?_
            show stp0 st de sg out t = _
            unfold stp0
            rw [if_pos ho, if_pos q8]
          · rw [if_neg q8]
            refine pE_go ?_
            show stp0 st de sg out t = _
            unfold stp0
            rw [if_pos ho, if_neg q8]
        unfold B_X11_readExp_53
        by_cases q8 : de = 8
        · rw [if_pos (by rw [q8]; rfl)]
          obtain ⟨m1, e1, e2, e3⟩ := h.stop
          rw [bd_e e1, hstp, if_pos (by omega)]
          exact (RS.bad e2 (by omega)).tr (e3.oh (by simp))
        · rw [if_neg (k_ne 8 8 rfl (by omega) (by omega) q8), nb_e (mr_52 h.1), mz_52 h.1, show (40 : Int32) = nI 40 from rfl, bd_e i40, h.2.2.2.2.2.1, hstp, if_neg (show ¬ 8 ≤ de by omega)]
          have g53 : ∀ v : Int32, gI (sI m (d + 41) st.length v) d 53 = nI st.length := fun v => by rw [gI_sI_ne (Or.inl (by omega))]; exact h.2.2.2.2.2.1
          have hgo : ∀ x : Nat, x = 0 ∨ x = 7 → x = (if t.1 = 40 then 0 else 7) → ∃ m1, (ib (nI st.length) 1100 <| bd (M_X11_next G d (sI (sI m (d + 41) ((nI st.length).toNatClampNeg) (nI (rop x))) d 53 ((gI (sI m (d + 41) ((nI st.length).toNatClampNeg) (nI (rop x))) d 53) + 1))) fun _ m_45 => B_X11_readExp_18 G (fu' + 1) d (nI 0) (nI de + 1) (nI sg) 1 true m_45) = B_X11_readExp_18 G (fu' + 1) d (nI 0) (nI (de + 1)) (nI sg) 1 true m1 ∧ OE m m1 d tt ∧ RE G m1 d tt len B e (A0 ++ out.map (kox e 0 c)) (x :: st) rs none ∧ (A0 ++ out.map (kox e 0 c)).length + (x :: st).length + rs.length ≤ 2000 := by
            intro x _ _
            obtain ⟨p1, p2⟩ := h.push (x := x) hb
            obtain ⟨m1, e1, e2, e3, e4⟩ := p1.next (show t.1 ≠ 130 by omega)
            rw [ib_n (by omega) (by omega), nI_clamp (by omega), g53, nI_1, bd_e e1, nI_1]
            exact ⟨m1, rfl, p2.tr (e3.oh (by simp)), e2, by have : (t :: rs).tail = rs := rfl; rw [this] at e4; omega⟩
          have hSN : ∀ x : Nat, x = 0 ∨ x = 7 → SH (x :: st) (de + 1) sg := by
            intro x hx
            rcases hx with rfl | rfl
            · exact ⟨by simp [okS, s1], fun z hz => by rcases List.mem_cons.mp hz with z1 | z1; exact Or.inl z1; exact s2 z z1, by simp [opn, nng]; omega, by omega, s5⟩
            · exact ⟨by simp [okS, s1], fun z hz => by rcases List.mem_cons.mp hz with z1 | z1; exact Or.inr (by omega); exact s2 z z1, by simp [opn, nng]; omega, by omega, s5⟩
          have hgN : ∀ x : Nat, x = 0 ∨ x = 7 → g7 (x :: st) := fun x hx => ⟨fun z => by omega, hg⟩
          by_cases q40 : t.1 = 40
          · rw [decide_eq_true (show hd (t :: rs) = 40 from q40), if_pos rfl, if_pos q40]
            obtain ⟨m1, e1, e2, e3, e4⟩ := hgo 0 (Or.inl rfl) (by rw [if_pos q40])
            have := ih 0 rs (0 :: st) (de + 1) sg out m1 e3 (hSN 0 (Or.inl rfl)) (hgN 0 (Or.inl rfl)) (by omega) (fun z => by omega) e4 (by omega)
            rw [if_pos rfl, ← e1] at this
            exact this.tr e2
          · rw [decide_eq_false (show ¬ hd (t :: rs) = 40 from q40), if_neg ff, if_neg q40]
            obtain ⟨m1, e1, e2, e3, e4⟩ := hgo 7 (Or.inr rfl) (by rw [if_neg q40])
            have := ih 0 rs (7 :: st) (de + 1) sg out m1 e3 (hSN 7 (Or.inr rfl)) (hgN 7 (Or.inr rfl)) (by omega) (fun z => by omega) e4 (by omega)
            rw [if_pos rfl, ← e1] at this
            exact this.tr e2
      by_cases q40 : t.1 = 40
      · rw [decide_eq_true (show hd (t :: rs) = 40 from q40), if_pos rfl]
        exact opens (Or.inl q40)
      rw [decide_eq_false (show ¬ hd (t :: rs) = 40 from q40), if_neg ff]
      by_cases q45 : t.1 = 45
      · rw [decide_eq_true (show hd (t :: rs) = 45 from q45), if_pos rfl]
        exact opens (Or.inr q45)
      rw [decide_eq_false (show ¬ hd (t :: rs) = 45 from q45), if_neg ff]
      obtain ⟨m1, e1, e2, e3⟩ := mm_one (c := c) h hb ⟨q40, q45⟩
      rw [bd_e e1]
      rcases e3 with ⟨o, l1, f1, f2, f3⟩ | ⟨A1, l1, r, f1, f2⟩
      · unfold M_X11_closeMinus
        obtain ⟨m2, i1, i2, i3⟩ := mm_closeMinus (c := c) st FU 0 m1 _ f1 s2 (by unfold FU; omega) (by omega)
        rw [nI_0] at i1
        rw [nI_0, bd_e i1]
        obtain ⟨p1, p2, p3⟩ := hS.pop (r := 3) (by omega)
        rw [Nat.zero_add, pk_sub p2, f3]
        have eA : A0 ++ out.map (kox e 0 c) ++ [kox e 0 c o] ++ xK e c (popG 3 st).1 = A0 ++ (out ++ [o] ++ (popG 3 st).1.map bop).map (kox e 0 c) := by
          rw [← kK_app]
          simp
        have hlen := popG_len st 3
        rw [eA] at i2
        rw [List.length_cons] at f2 hb
        have := ih 1 l1 (popG 3 st).2 (de - nng (popG 3 st).1) sg (out ++ [o] ++ (popG 3 st).1.map bop) m2 i2 p1 (g7_pop st 3 hg) (by omega) (fun _ => n7_three st s2 hg) (by
          simp only [List.length_append, List.length_map, List.length_singleton] at hb ⊢
          omega) (by omega)
        rw [if_neg (by decide), nI_0] at this
        exact this.tr (e2.tr i3)
      · unfold M_X11_closeMinus
        obtain ⟨m2, i1, i2, i3⟩ := mm_closeMinus (c := c) st FU 0 m1 _ f1 s2 (by unfold FU; omega) (by omega)
        rw [nI_0] at i1
        rw [nI_0, bd_e i1, f2]
        have hlen := popG_len st 3
        have := RS.bad (c := c) (fu := fu') (x2 := nI de - nI (0 + nng (popG 3 st).1)) (x3 := nI sg) (x4 := 0) (x5 := true) (A0 := A0) (out := out) i2 (by omega)
        rw [nI_0] at this
        exact this.tr (e2.tr i3)
    · have hmd1 : md = 1 := by omega
      subst hmd1
      have hn7 := hn rfl
      rw [if_neg (show ¬ 1 = 0 by decide), if_pos (show (0 : Int32) = 0 from rfl), show (43 : Int32) = nI 43 from rfl, show (45 : Int32) = nI 45 from rfl, show (42 : Int32) = nI 42 from rfl, show (47 : Int32) = nI 47 from rfl]
      by_cases hj : jop t.1 = 0
      · rw [mm_nosign h (show hd (t :: rs) = t.1 from rfl) hj, show (41 : Int32) = nI 41 from rfl, bd_e (h.isAt (by omega))]
        -- the end
        have fin : ¬ (t.1 = 41 ∧ 0 ∈ st) → RS G m d tt len B e c A0 (B_X11_readExp_18 G (fu' + 1) d (nI 0) (nI de) (nI sg) 0 false m) (pE (1, 0, st, de, sg, out) (t :: rs)) := by
          intro hno
          rw [B_X11_readExp_18, if_neg ff]
          obtain ⟨m1, e1, e2, e3, e4⟩ := mm_fin (c := c) h s2 (by omega)
          rw [e1]
          by_cases q0 : 0 ∈ st
          · have ep : pE (1, 0, st, de, sg, out) (t :: rs) = (false, out, t :: rs) := by
              refine pE_end (q := (false, out)) ?_
              show stp1 st de sg out t.1 = _
              unfold stp1
              rw [if_neg (by rw [hj]; decide), if_neg hno, if_pos q0]
            rw [ep]
            obtain ⟨A1, r1⟩ := e3 q0
            exact ⟨m1, rfl, e2, (fun z => by cases z), fun _ => ⟨A1, _, r1⟩⟩
          · have ep : pE (1, 0, st, de, sg, out) (t :: rs) = (true, out ++ (popG 1 st).1.map bop, t :: rs) := by
              refine pE_end (q := (true, _)) ?_
              show stp1 st de sg out t.1 = _
              unfold stp1
              rw [if_neg (by rw [hj]; decide), if_neg hno, if_neg q0]
            rw [ep, popG_all st s2 q0]
            have := e4 q0
            rw [kK_app] at this
            exact ⟨m1, rfl, e2, fun _ => this, fun z => by cases z⟩
        by_cases q41 : t.1 = 41
        · rw [decide_eq_true (show hd (t :: rs) = 41 from q41), if_pos rfl, bd_e (mm_hasOpen h s2 (by omega))]
          by_cases q0 : 0 ∈ st
          · rw [decide_eq_true q0, if_pos rfl]
            obtain ⟨m1, e1, e2, e3⟩ := mm_popO (c := c) (de := nI de) (sg := nI sg) (w4 := 0) (bo := true) (k18 := B_X11_readExp_18 G (fu' + 1)) st FU m _ h s2 q0 (by unfold FU; omega) (by omega)
            rw [e1]
            obtain ⟨m2, f1, f2, f3, f4⟩ := e2.next (show t.1 ≠ 130 by omega)
            rw [bd_e f1]
            obtain ⟨a1, a2⟩ := n7_pop st 1 (by omega) hn7
            obtain ⟨p1, p2, p3⟩ := hS.pop (r := 1) (by omega)
            have ez := popG_zero st s2 q0
            have hlen := popG_len st 1
            obtain ⟨tl, etl⟩ : ∃ tl, (popG 1 st).2.tail = tl := ⟨_, rfl⟩
            rw [etl] at ez e2 f2 f4
            have hl1 : (popG 1 st).2.length = tl.length + 1 := by rw [ez]; simp
            have y2 : ∀ y ∈ tl, y = 0 ∨ (7 ≤ y ∧ y ≤ 11) := fun y hy => p1.2.1 y (by rw [ez]; simp [hy])
            have so1 : opn (popG 1 st).2 = opn tl + 1 := by rw [ez]; simp [opn]; omega
            have sn1 : nng (popG 1 st).2 = nng tl := by rw [ez]; simp [nng]
            have q3 := p1.2.2.1
            have q4 := p1.2.2.2.1
            rw [so1, sn1, a2] at q3
            rw [a2] at q4
            have hST : SH tl (de - 1) sg := by
              refine ⟨?_, y2, by omega, by omega, s5⟩
              have := p1.1
              rw [ez] at this
              simpa [okS] using this
            unfold M_X11_closeMinus
            obtain ⟨m3, i1, i2, i3⟩ := mm_closeMinus (c := c) tl FU 0 m2 _ f2 y2 (by unfold FU; omega) (by omega)
            rw [nI_0] at i1
            obtain ⟨r1, r2, r3⟩ := hST.pop (r := 3) (by omega)
            rw [nI_0, bd_e i1, Nat.zero_add, show nI de + (-1) = nI (de - 1) by rw [← pk_sub (show 1 ≤ de by omega), Int32.sub_eq_add_neg]; rfl, pk_sub r2]
            have eA : A0 ++ out.map (kox e 0 c) ++ xK e c (popG 1 st).1 ++ xK e c (popG 3 tl).1 = A0 ++ (out ++ (popG 1 st).1.map bop ++ (popG 3 tl).1.map bop).map (kox e 0 c) := by
              rw [kK_app, kK_app]
            rw [eA] at i2
            have hlen3 := popG_len tl 3
            have hgt : g7 tl := by rw [← etl]; exact g7_tail (g7_pop st 1 hg)
            rw [List.length_cons] at hb
            have := ih 1 rs (popG 3 tl).2 (de - 1 - nng (popG 3 tl).1) sg (out ++ (popG 1 st).1.map bop ++ (popG 3 tl).1.map bop) m3 i2 r1 (g7_pop tl 3 hgt) (by omega) (fun _ => n7_three tl y2 hgt) (by
              simp only [List.length_append, List.length_map] at hb ⊢
              omega) (by omega)
            rw [if_neg (by decide), nI_0] at this
            have ep : pE (1, 0, st, de, sg, out) (t :: rs) = pE (1, 0, (popG 3 tl).2, de - 1 - nng (popG 3 tl).1, sg, out ++ (popG 1 st).1.map bop ++ (popG 3 tl).1.map bop) rs := by
              refine pE_go ?_
              show stp1 st de sg out t.1 = _
              unfold stp1
              rw [if_neg (by rw [hj]; decide), if_pos ⟨q41, q0⟩, etl, a2, Nat.sub_zero]
            rw [ep]
            exact this.tr ((e3.tr (f3.oh (by simp))).tr i3)
          · rw [decide_eq_false q0, if_neg ff]
            exact fin (fun z => q0 z.2)
        · rw [decide_eq_false (show ¬ hd (t :: rs) = 41 from q41), if_neg ff]
          exact fin (fun z => q41 z.1)
      · rw [mm_sign h (show hd (t :: rs) = t.1 from rfl) hj]
        have hjr : 0 < rnk (jop t.1) ∧ rnk (jop t.1) ≤ 2 ∧ jop t.1 ≠ 7 ∧ 8 ≤ jop t.1 ∧ jop t.1 ≤ 11 := by
          rcases jop_cases t.1 with q | q | q | q | q <;> rw [q] <;> first | exact absurd q hj | decide
        have ht130 : t.1 ≠ 130 := fun z => hj (by rw [z]; rfl)
        have hlen := popG_len st (rnk (jop t.1))
        unfold B_X11_readExp_209
        rw [nI_1, show (20 : Int32) = nI 20 from rfl]
        by_cases q20 : sg + 1 ≤ 20
        · rw [if_pos ((nI_leI (by omega) (by omega)).mpr q20)]
          obtain ⟨m1, e1, e2, e3⟩ := mm_popG (c := c) (de := de) (sg := sg + 1) (bo := true) (k18 := B_X11_readExp_18 G (fu' + 1)) ⟨hjr.2.2.2.1, hjr.2.2.2.2⟩ st FU m _ h s2 hn7 (by unfold FU; omega) (by omega)
          rw [e1]
          rw [kK_app] at e2
          have hb2 : (A0 ++ (out ++ (popG (rnk (jop t.1)) st).1.map bop).map (kox e 0 c)).length + (popG (rnk (jop t.1)) st).2.length + (t :: rs).length ≤ 2000 := by
            simp only [List.length_append, List.length_map] at hb ⊢
            omega
          obtain ⟨m2, f1, f2, f3, f4⟩ := mm_push (x2 := nI de) (x3 := nI (sg + 1)) (k18 := B_X11_readExp_18 G (fu' + 1)) (j := jop t.1) e2 hb2 (by omega) ht130
          rw [f1]
          obtain ⟨p1, p2, p3⟩ := hS.pop hjr.1
          obtain ⟨a1, a2⟩ := n7_pop st (rnk (jop t.1)) hjr.1 hn7
          have hSN : SH (jop t.1 :: (popG (rnk (jop t.1)) st).2) de (sg + 1) := by
            refine ⟨?_, fun y hy => ?_, ?_, s4, by omega⟩
            · simp only [okS]
              rw [if_neg hj, if_neg hjr.2.2.1]
              exact ⟨by omega, hjr.1, okS_top st _ 3 hjr.1 hjr.2.1 s1⟩
            · rcases List.mem_cons.mp hy with q | q
              · exact Or.inr (by omega)
              · exact p1.2.1 y q
            · have := p1.2.2.1
              rw [a2] at this
              simp only [opn, nng, if_neg hj, if_neg hjr.2.2.1]
              omega
          have := ih 0 rs (jop t.1 :: (popG (rnk (jop t.1)) st).2) de (sg + 1) (out ++ (popG (rnk (jop t.1)) st).1.map bop) m2 f2 hSN ⟨fun _ => a1, g7_pop st _ hg⟩ (by omega) (fun z => by omega) f4 (by omega)
          rw [if_pos rfl] at this
          have ep : pE (1, 0, st, de, sg, out) (t :: rs) = pE (0, 0, jop t.1 :: (popG (rnk (jop t.1)) st).2, de, sg + 1, out ++ (popG (rnk (jop t.1)) st).1.map bop) rs := by
            refine pE_go ?_
            show stp1 st de sg out t.1 = _
            unfold stp1
            rw [if_pos hj, if_neg (by omega), a2, Nat.sub_zero]
          rw [ep]
          exact this.tr (e3.tr f3)
        · rw [if_neg (fun z => q20 ((nI_leI (by omega) (by omega)).mp z))]
          obtain ⟨m0, z1, z2, z3⟩ := h.stop
          rw [bd_e z1]
          obtain ⟨m1, e1, e2, e3⟩ := mm_popG (c := c) (de := de) (sg := sg + 1) (bo := true) (k18 := B_X11_readExp_18 G (fu' + 1)) ⟨hjr.2.2.2.1, hjr.2.2.2.2⟩ st FU m0 _ z2 s2 hn7 (by unfold FU; omega) (by omega)
          rw [e1]
          rw [kK_app] at e2
          have hb2 : (A0 ++ (out ++ (popG (rnk (jop t.1)) st).1.map bop).map (kox e 0 c)).length + (popG (rnk (jop t.1)) st).2.length + (t :: rs).length ≤ 2000 := by
            simp only [List.length_append, List.length_map] at hb ⊢
            omega
          obtain ⟨m2, f1, f2, f3, f4⟩ := mm_push (x2 := nI de) (x3 := nI (sg + 1)) (k18 := B_X11_readExp_18 G (fu' + 1)) (j := jop t.1) e2 hb2 (by omega) ht130
          rw [f1]
          have ep : pE (1, 0, st, de, sg, out) (t :: rs) = (false, out, t :: rs) := by
            refine pE_end (q := (false, out)) ?_
            show stp1 st de sg out t.1 = _
            unfold stp1
            rw [if_pos hj, if_pos (by omega)]
          rw [ep]
          exact (RS.bad f2 (by rw [List.length_cons]; omega)).tr (((z3.oh (by simp)).tr e3).tr f3)
theorem mm_exp {G : GG} {m : MM} {d tt len e c : Nat} {B : Nat → Int32} {A : List Ko} {l : List Tok} (h : RE G m d tt len B e A [] l none) (hb : A.length + l.length ≤ 2000) : RS G m d tt len B e c A (M_X11_readExp G d m) (pX l) := by
  unfold M_X11_readExp
  rw [bd_e h.gT, h.2.2.2.2.2.1]
  have := mm_loop (c := c) (A0 := A) FU 0 l [] 0 0 [] m (by simpa using h) ⟨trivial, fun y hy => by simp at hy, rfl, by omega, by omega⟩ trivial (by omega) (fun z => by omega) (by simpa using hb) (by unfold FU; omega)
  rw [if_pos rfl, nI_0] at this
  rw [List.length_nil, nI_0]
  exact this
theorem mm_expB {G : GG} {m : MM} {d tt len e p : Nat} {B : Nat → Int32} {A : List Ko} {l : List Tok} (h : RE G m d tt len B e A [] l (some p)) : ∃ m1, M_X11_readExp G d m = some ((), m1) ∧ OE m m1 d tt ∧ RE G m1 d tt len B e A [] l (some p) := by
  unfold M_X11_readExp
  rw [bd_e h.gF, h.2.2.2.2.2.1]
  exact mm_finB (fu := FU - 1) h (by simp)
