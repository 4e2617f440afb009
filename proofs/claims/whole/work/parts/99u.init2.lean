/-! ===== L2: the class's constructor, the reference's ===== -/
theorem k5_e {G : GG} {m : MM} {x : Nat} (hx : G.1 = x + 1) : ∃ G9 m9, K_X5_init G x m = some (G9, m9) ∧ G9.1 = x + 5 ∧ (gR m9 x 0 = some (x + 1) ∧ gR m9 x 1 = some (x + 3) ∧ gR m9 (x + 1) 0 = some (x + 2) ∧ G9.2.2 (x + 2) = 2001 ∧ gR m9 (x + 3) 0 = some (x + 4) ∧ G9.2.2 (x + 4) = 26) ∧ (∀ a, a < x → G9.2.2 a = G.2.2 a ∧ m9.2.2 a = m.2.2 a) ∧ (ZI m → ZI m9) := by
  unfold K_X5_init
  have hG1 : (gN G 9 0).1 = x + 2 := by show G.1 + 1 = _; omega
  have a0 := mk_len (x0 := G.1) [(0, 15, 2001)] (gN G 9 0) (clr m G.1)
  have a1 := mk_at (x0 := G.1) [(0, 15, 2001)] (gN G 9 0) (clr m G.1) 0 _ (by show G.1 < G.1 + 1; omega) (by decide) rfl
  have a2 := mk_new (x0 := G.1) [(0, 15, 2001)] (gN G 9 0) (clr m G.1) 0 _ rfl
  have a3 := mk_old (x0 := G.1) [(0, 15, 2001)] (gN G 9 0) (clr m G.1)
  have a4 := mk_R (x0 := G.1) [(0, 15, 2001)] (gN G 9 0) (clr m G.1)
  have a5 : ZI m → ZI (mk G.1 [(0, 15, 2001)] (gN G 9 0) (clr m G.1)).2 := fun z => mk_Z (z.clr _)
  rw [k9, bg_e rfl]
  generalize hg : (mk G.1 [(0, 15, 2001)] (gN G 9 0) (clr m G.1)).1 = g2 at a0 a1 a2 a3 a4 a5 ⊢
  generalize hm : (mk G.1 [(0, 15, 2001)] (gN G 9 0) (clr m G.1)).2 = m3 at a0 a1 a2 a3 a4 a5 ⊢
  have a0 : g2.1 = x + 3 := by rw [a0, hG1]; rfl
  have hG2 : (gN g2 2 0).1 = x + 4 := by show g2.1 + 1 = _; omega
  rw [hG1] at a1 a2 a3 a4
  rw [hx] at a1 a4
  have b0 := mk_len (x0 := g2.1) [(0, 12, 26)] (gN g2 2 0) (clr (sR m3 x 0 (some G.1)) g2.1)
  have b1 := mk_at (x0 := g2.1) [(0, 12, 26)] (gN g2 2 0) (clr (sR m3 x 0 (some G.1)) g2.1) 0 _ (by show g2.1 < g2.1 + 1; omega) (by decide) rfl
  have b2 := mk_new (x0 := g2.1) [(0, 12, 26)] (gN g2 2 0) (clr (sR m3 x 0 (some G.1)) g2.1) 0 _ rfl
  have b3 := mk_old (x0 := g2.1) [(0, 12, 26)] (gN g2 2 0) (clr (sR m3 x 0 (some G.1)) g2.1)
  have b4 := mk_R (x0 := g2.1) [(0, 12, 26)] (gN g2 2 0) (clr (sR m3 x 0 (some G.1)) g2.1)
  have b5 : ZI m3 → ZI (mk g2.1 [(0, 12, 26)] (gN g2 2 0) (clr (sR m3 x 0 (some G.1)) g2.1)).2 := fun z => mk_Z ((z.r _ _ _).clr _)
  rw [k2, bg_e rfl]
  generalize hg2 : (mk g2.1 [(0, 12, 26)] (gN g2 2 0) (clr (sR m3 x 0 (some G.1)) g2.1)).1 = g5 at b0 b1 b2 b3 b4 b5 ⊢
  generalize hm2 : (mk g2.1 [(0, 12, 26)] (gN g2 2 0) (clr (sR m3 x 0 (some G.1)) g2.1)).2 = m6 at b0 b1 b2 b3 b4 b5 ⊢
  rw [hG2] at b0 b1 b2 b3 b4
  rw [a0] at b1 b4
  have c3 : ∀ a, a < x + 3 → g5.2.2 a = g2.2.2 a := fun a ha => by rw [b3 a (by omega), gn_lt (by omega)]
  have c4 : ∀ a, a < x + 3 → a ≠ x → m6.2.2 a = m3.2.2 a := fun a ha hax => by rw [b4 a (by omega) (by omega), clr_R (by omega), sr_ne hax]
  refine ⟨g5, _, rfl, by rw [b0]; rfl, ⟨?_, ?_, ?_, ?_, ?_, ?_⟩, fun a ha => ⟨?_, ?_⟩, fun z => (b5 (a5 z)).r _ _ _⟩
  · rw [gR_sR, if_neg (by omega)]
    show m6.2.2 x 0 = _
    rw [b4 x (by omega) (by omega), clr_R (by omega)]
    show gR (sR m3 x 0 (some G.1)) x 0 = _
    rw [gR_sR, if_pos ⟨rfl, rfl⟩, hx]
  · rw [gR_sR, if_pos ⟨rfl, rfl⟩, a0]
  · rw [gR_sR, if_neg (by omega)]
    show m6.2.2 (x + 1) 0 = _
    rw [c4 _ (by omega) (by omega)]
    exact a1
  · rw [c3 _ (by omega)]
    exact a2
  · rw [gR_sR, if_neg (by omega)]
    exact b1
  · exact b2
  · rw [c3 _ (by omega), a3 a (by omega), gn_lt (by omega)]
  · rw [sr_ne (by omega), c4 a (by omega) (by omega), a4 a (by omega) (by omega), clr_R (by omega)]
/-- what stays of what lay there: all but the object n and one field of the program behind it -/
def PK (n : Nat) (G : GG) (m : MM) (G9 : GG) (m9 : MM) : Prop := G.1 ≤ G9.1 ∧ (∀ a, a < G.1 → G9.2.2 a = G.2.2 a) ∧ ∀ a j, a < G.1 → a ≠ n → ¬ (a = n + 1 ∧ j = 5) → gR m9 a j = gR m a j
theorem PK.tr {n : Nat} {G G1 G2 : GG} {m m1 m2 : MM} (h : PK n G m G1 m1) (h2 : PK n G1 m1 G2 m2) : PK n G m G2 m2 :=
  ⟨Nat.le_trans h.1 h2.1, fun a ha => (h2.2.1 a (Nat.lt_of_lt_of_le ha h.1)).trans (h.2.1 a ha), fun a j ha b c => (h2.2.2 a j (Nat.lt_of_lt_of_le ha h.1) b c).trans (h.2.2 a j ha b c)⟩
theorem PK.r {n : Nat} {G : GG} {m : MM} {k : Nat} {v : Option Nat} : PK n G m G (sR m n k v) := ⟨Nat.le_refl _, fun _ _ => rfl, fun a j _ b _ => by rw [gR_sR, if_neg (fun z => b z.1)]⟩
theorem PK.ob {n : Nat} {G : GG} {m : MM} {κ : Nat} {l : List (Nat × Nat × Nat)} : PK n G m (mk G.1 l (gN G κ 0) (clr m G.1)).1 (mk G.1 l (gN G κ 0) (clr m G.1)).2 := by
  have e : (gN G κ 0).1 = G.1 + 1 := rfl
  refine ⟨by rw [mk_len, e]; omega, fun a ha => by rw [mk_old _ _ _ a (by omega), gn_lt ha], fun a j ha _ _ => ?_⟩
  show (mk G.1 l (gN G κ 0) (clr m G.1)).2.2.2 a j = _
  rw [mk_R _ _ _ a (by omega) (by omega), clr_R (by omega)]; rfl
theorem row_ob {n : Nat} {G : GG} {m : MM} {κ : Nat} {l : List (Nat × Nat × Nat)} (h : n < G.1) : (mk G.1 l (gN G κ 0) (clr m G.1)).2.2.2 n = m.2.2 n := by
  have e : (gN G κ 0).1 = G.1 + 1 := rfl
  rw [mk_R _ _ _ n (by omega) (by omega), clr_R (by omega)]
theorem PK.al {n : Nat} {G : GG} {m : MM} {κ l : Nat} : PK n G m (gN G κ l) (clr m G.1) := ⟨Nat.le_succ _, fun a ha => gn_lt ha, fun a j ha _ _ => by show (clr m G.1).2.2 a j = _; rw [clr_R (by omega)]; rfl⟩
/-- a program -/
def PF (G : GG) (m : MM) (x : Nat) : Prop := LPg G m x ∧ gR m x 2 = some (x + 3) ∧ G.2.2 (x + 3) = 2000
theorem SP.pf {G0 G : GG} {M0 M : MM} {x : Nat} (h : SP G0 M0 x 8 G M) : PF G M x := ⟨⟨h.2.1.1, h.2.1.2.1, h.2.2.1.1, h.2.2.1.2.1, h.2.2.2.1⟩, h.2.1.2.2, h.2.2.1.2.2⟩
theorem PF.pk {n : Nat} {G G9 : GG} {m m9 : MM} {x : Nat} (h : PF G m x) (p : PK n G m G9 m9) (hx : n < x) (hb : x + 100 ≤ G.1) : PF G9 m9 x := by
  obtain ⟨⟨h1, h2, h3, h4, h5⟩, h6, h7⟩ := h
  refine ⟨⟨by rw [p.2.2 _ _ (by omega) (by omega) (by omega)]; exact h1, by rw [p.2.2 _ _ (by omega) (by omega) (by omega)]; exact h2, by rw [p.2.1 _ (by omega)]; exact h3, by rw [p.2.1 _ (by omega)]; exact h4, fun e he => ⟨?_, fun i hi => ⟨?_, ?_⟩⟩⟩, by rw [p.2.2 _ _ (by omega) (by omega) (by omega)]; exact h6, by rw [p.2.1 _ (by omega)]; exact h7⟩
  · rw [p.2.2 _ _ (by omega) (by omega) (by omega)]; exact (h5 e he).1
  · rw [p.2.2 _ _ (by omega) (by omega) (by omega)]; exact ((h5 e he).2 i hi).1
  · rw [p.2.1 _ (by omega)]; exact ((h5 e he).2 i hi).2
theorem SP.pk {n : Nat} {G G9 : GG} {m m9 : MM} {κ : Nat} (h : SP (gN G κ 0) (clr m G.1) G.1 8 G9 m9) : PK n G m G9 m9 ∧ (n < G.1 → m9.2.2 n = m.2.2 n) ∧ (ZI m → ZI m9) := by
  refine ⟨⟨by rw [h.1]; omega, fun a ha => by rw [(h.2.2.2.2.1 a ha).1, gn_lt ha], fun a j ha _ _ => ?_⟩, fun hn => ?_, fun z => h.2.2.2.2.2 (z.clr _)⟩
  · show m9.2.2 a j = _
    rw [(h.2.2.2.2.1 a ha).2, clr_R (by omega)]; rfl
  · rw [(h.2.2.2.2.1 n hn).2, clr_R (by omega)]
