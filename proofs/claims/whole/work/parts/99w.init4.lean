/-! ===== L2: the reference's constructor; both at the start ===== -/
def mo_b (s : Nat) : Bool := mo s == 0 || (e11a[mo s - 1]? == some (s, 12, mln s) && decide (mo s ≤ 41) && e11b.all (fun q => s != q.1)) || (decide (41 < mo s) && e11b[mo s - 42]? == some (s, 12, mln s))
set_option maxRecDepth 20000 in
theorem mo_bs : ∀ s, s < 74 → mo_b s = true := by decide
theorem mo_tab (s : Nat) (hs : s < 74) (h : 0 < mo s) : (e11a[mo s - 1]? = some (s, 12, mln s) ∧ mo s ≤ 41 ∧ ∀ q ∈ e11b, s ≠ q.1) ∨ (41 < mo s ∧ e11b[mo s - 42]? = some (s, 12, mln s)) := by
  have := mo_bs s hs
  unfold mo_b at this
  simp only [Bool.or_eq_true, Bool.and_eq_true, beq_iff_eq, decide_eq_true_eq, List.all_eq_true, bne_iff_ne] at this
  rcases this with (h0 | ⟨⟨a, b⟩, c⟩) | ⟨a, b⟩
  · omega
  · exact Or.inl ⟨a, b, c⟩
  · exact Or.inr ⟨a, b⟩
theorem mo_lt {s : Nat} (h : 0 < mo s) : s < 74 := by
  unfold mo at h
  split at h <;> omega
theorem k11_e {G : GG} {m : MM} {n d : Nat} (hd : G.1 = d) (hn : n < d) : ∃ G9 m9, K_X11_init (gN G 11 0) d (clr m d) = some (G9, m9) ∧ PK n G m G9 m9 ∧ m9.2.2 n = m.2.2 n ∧ (∀ a, a < d → m9.2.2 a = m.2.2 a) ∧ LM G9 m9 d ∧ (ZI m → ∀ a j, gI m9 a j = if a = d ∧ j = 55 then -1000009 else 0) := by
  have hG : (gN G 11 0).1 = d + 1 := by show G.1 + 1 = _; omega
  rw [k11]
  have a0 := mk_len (x0 := d) e11a (gN G 11 0) (clr m d)
  have a1 := mk_at (x0 := d) e11a (gN G 11 0) (clr m d)
  have a2 := mk_new (x0 := d) e11a (gN G 11 0) (clr m d)
  have a3 := mk_old (x0 := d) e11a (gN G 11 0) (clr m d)
  have a4 := mk_R (x0 := d) e11a (gN G 11 0) (clr m d)
  have a5 : ZI m → ZI (mk d e11a (gN G 11 0) (clr m d)).2 := fun z => mk_Z (z.clr _)
  generalize hg : (mk d e11a (gN G 11 0) (clr m d)).1 = g1 at a0 a1 a2 a3 a4 a5 ⊢
  generalize hm : (mk d e11a (gN G 11 0) (clr m d)).2 = m1 at a0 a1 a2 a3 a4 a5 ⊢
  clear hg hm
  rw [hG] at a0 a1 a2 a3 a4
  have a0 : g1.1 = d + 42 := by rw [a0]; show d + 1 + 41 = _; omega
  have b0 := mk_len (x0 := d) e11b g1 (sI m1 d 55 (-1000009))
  have b1 := mk_at (x0 := d) e11b g1 (sI m1 d 55 (-1000009))
  have b2 := mk_new (x0 := d) e11b g1 (sI m1 d 55 (-1000009))
  have b3 := mk_old (x0 := d) e11b g1 (sI m1 d 55 (-1000009))
  have b4 := mk_R (x0 := d) e11b g1 (sI m1 d 55 (-1000009))
  have b6 := mk_off (x0 := d) e11b g1 (sI m1 d 55 (-1000009))
  have b7 := mk_I (x0 := d) e11b g1 (sI m1 d 55 (-1000009))
  have b8 := mk_z (x0 := d) e11b g1 (sI m1 d 55 (-1000009))
  generalize hg : (mk d e11b g1 (sI m1 d 55 (-1000009))).1 = g9 at b0 b1 b2 b3 b4 b6 b7 b8 ⊢
  generalize hm : (mk d e11b g1 (sI m1 d 55 (-1000009))).2 = m9 at b0 b1 b2 b3 b4 b6 b7 b8 ⊢
  have hp : mk d e11b g1 (sI m1 d 55 (-1000009)) = (g9, m9) := by rw [← hg, ← hm]
  clear hg hm
  rw [a0] at b0 b1 b2 b3 b4 b6 b7
  have c4 : ∀ a, a < d → m9.2.2 a = m.2.2 a := fun a ha => by
    rw [b4 a (by omega) (by omega)]
    show m1.2.2 a = _
    rw [a4 a (by omega) (by omega), clr_R (by omega)]
  refine ⟨g9, m9, by rw [hp], ⟨by rw [b0]; omega, fun a ha => by rw [b3 a (by omega), a3 a (by omega), gn_lt ha], fun a j ha _ _ => congrFun (c4 a (by omega)) j⟩, c4 n hn, c4, fun s hs => ?_, fun z a j => ?_⟩
  · rcases mo_tab s (mo_lt hs) hs with ⟨e1, e2, e3⟩ | ⟨e1, e2⟩
    · refine ⟨?_, ?_⟩
      · rw [b6 s (by omega) e3, gR_sI, a1 _ _ (by omega) (by decide) e1, show d + 1 + (mo s - 1) = d + mo s from (by omega)]
      · have := a2 _ _ e1
        rw [show d + 1 + (mo s - 1) = d + mo s from (by omega)] at this
        rw [b3 _ (by omega)]
        exact this
    · refine ⟨?_, ?_⟩
      · have := b1 _ _ (by omega) (by decide) e2
        rw [show d + 42 + (mo s - 42) = d + mo s from (by omega)] at this
        exact this
      · have := b2 _ _ e2
        rw [show d + 42 + (mo s - 42) = d + mo s from (by omega)] at this
        exact this
  · by_cases q : a = d ∧ j = 55
    · rw [if_pos q, q.1, q.2]
      show m9.1 d 55 = _
      rw [b7 d (by omega)]
      exact gI_sI_eq
    · rw [if_neg q]
      refine b8 a j ?_
      show gI (sI m1 d 55 (-1000009)) a j = 0
      rw [gI_sI, if_neg q]
      exact a5 z a j
theorem PK.ly {n : Nat} {G G9 : GG} {m m9 : MM} (h : LY G m n) (o : ∀ a, a < n + 216 → m9.2.2 a = m.2.2 a) (p : ∀ a, a < n + 216 → G9.2.2 a = G.2.2 a) : LY G9 m9 n := by
  have h := h.kept (m1 := m9) (fun a j z => congrFun (o a (by unfold PN TT at z; omega)) j)
  obtain ⟨h1, ⟨b1, b2, b3, b4, b5⟩, ⟨c1, c2, c3, c4, c5, c6⟩, d1, e1⟩ := h
  refine ⟨h1, ⟨b1, b2, by rw [p _ (by omega)]; exact b3, by rw [p _ (by omega)]; exact b4, by rw [p _ (by omega)]; exact b5⟩, ⟨c1, c2, c3, by rw [p _ (by omega)]; exact c4, c5, by rw [p _ (by omega)]; exact c6⟩, fun pg hp => ?_, fun t ht => ?_⟩
  · obtain ⟨⟨p1, p2, p3, p4, p5⟩, p6, p7⟩ := d1 pg hp
    unfold PN at hp
    refine ⟨⟨p1, p2, by rw [p _ (by omega)]; exact p3, by rw [p _ (by omega)]; exact p4, fun e he => ⟨(p5 e he).1, fun i hi => ⟨((p5 e he).2 i hi).1, by rw [p _ (by omega)]; exact ((p5 e he).2 i hi).2⟩⟩⟩, p6, by rw [p _ (by omega)]; exact p7⟩
  · obtain ⟨t1, t2⟩ := e1 t ht
    unfold TT at ht
    exact ⟨t1, by rw [p _ (by omega)]; exact t2⟩
/-- both, newly made -/
theorem inv_0 (n : Nat) : ∃ g1 m1 g2 m2, K_X10_init (gN (G00 n) 10 0) n (clr m00 n) = some (g1, m1) ∧ g1.1 = n + 216 ∧ K_X11_init (gN g1 11 0) g1.1 (clr m1 g1.1) = some (g2, m2) ∧ INV g2 m2 n := by
  have z0 : ZI m00 := fun _ _ => rfl
  obtain ⟨g1, m1, e1, l1, z1, y1, ⟨w1, w2, w3⟩, w4⟩ := k10_e (G := gN (G00 n) 10 0) (m := clr m00 n) (n := n) rfl (z0.clr n)
  obtain ⟨g2, m2, e2, p2, r2, o2, lm, zz⟩ := k11_e (m := m1) (n := n) l1 (by omega)
  have zz := zz z1
  have hy := PK.ly y1 o2 (fun a ha => p2.2.1 a (by omega))
  refine ⟨g1, m1, g2, m2, e1, l1, by rw [l1]; exact e2, n + 1, n + 101, n + 201, n + 214, 0, 0, fun _ => -1, 0, fun _ => -1, [], [], fun _ _ _ => -1, gz, 0, [], 0, 0, (0, 0), ?_, ?_, ?_, zf_nil ⟨by omega, fun _ _ => rfl⟩ (by omega)⟩
  · exact ⟨Or.inl rfl, Or.inr rfl, by omega, Or.inl rfl, Or.inr rfl, by omega⟩
  · obtain ⟨d1, d2, d3⟩ := hy.2.2.2.1 (n + 1) (Or.inl rfl)
    have tw := hy.2.2.2.2
    have z : ∀ a j, a < n + 216 → gI m2 a j = 0 := fun a j ha => by rw [zz, if_neg (by omega)]
    have TPx : ∀ t, TT n t → TP g2 m2 t 0 (fun _ => -1) := fun t ht => by
      obtain ⟨t1, t2⟩ := tw t ht
      unfold TT at ht
      exact ⟨t1, t2, z _ _ (by omega), by omega, fun i hi => absurd hi (by omega), fun _ _ => rfl⟩
    refine ⟨hy, ⟨(congrFun (o2 n (by omega)) 0).trans w1, (congrFun (o2 n (by omega)) 1).trans w2, (congrFun (o2 n (by omega)) 2).trans w3⟩, ⟨d1, (congrFun (o2 (n + 1) (by omega)) 5).trans w4, TPx _ (Or.inr rfl), ⟨d2, d3, z _ _ (by omega), by simp, fun j v hj => by simp at hj⟩, z _ _ (by omega), ⟨by simp, fun E hE => by simp at hE⟩, fun e E hE => by simp at hE⟩, TPx _ (Or.inl rfl), fun e E hE => by simp at hE, ⟨z _ _ (by omega), by simp [gz], fun k v hk => by simp [gz] at hk⟩, ⟨z _ _ (by omega), z _ _ (by omega), fun i c hc => by simp at hc⟩, ⟨z _ _ (by omega), z _ _ (by omega)⟩, z _ _ (by omega), z _ _ (by omega)⟩
  · have z : ∀ a j, ¬ (a = n + 216 ∧ j = 55) → gI m2 a j = 0 := fun a j ha => by rw [zz, if_neg ha]
    refine ⟨lm, ⟨z _ _ (by omega), by omega⟩, ⟨z _ _ (by omega), fun i hi => absurd hi (by omega)⟩, z _ _ (by omega), fun h => absurd rfl h, fun e E hE => by simp at hE, ⟨z _ _ (by omega), by simp [gz], fun k v hk => by simp [gz] at hk⟩, ⟨z _ _ (by omega), z _ _ (by omega)⟩, ⟨z _ _ (by omega), fun h => absurd rfl h, fun i c hc => by simp at hc⟩, z _ _ (by omega), ?_⟩
    rw [zz, if_pos ⟨rfl, rfl⟩, if_pos rfl]
