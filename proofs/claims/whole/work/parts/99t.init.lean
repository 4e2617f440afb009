/-! ===== L2: what the constructors make ===== -/
/-- rows of arrays made one after another for one object: field, kind, length -/
def mk (x0 : Nat) : List (Nat × Nat × Nat) → GG → MM → GG × MM
  | [], G, m => (G, m)
  | q :: r, G, m => mk x0 r (gN G q.2.1 q.2.2) (sR (clr m G.1) x0 q.1 (some G.1))
def ZI (m : MM) : Prop := ∀ a j, m.1 a j = 0
theorem gn_len {G : GG} {κ l a : Nat} : (gN G κ l).2.2 a = if a = G.1 then l else G.2.2 a := rfl
theorem gn_lt {G : GG} {κ l a : Nat} (h : a < G.1) : (gN G κ l).2.2 a = G.2.2 a := by rw [gn_len, if_neg (by omega)]
theorem clr_R {m : MM} {a b : Nat} (h : b ≠ a) : (clr m a).2.2 b = m.2.2 b := (clr_off h).2.2
theorem clr_I {m : MM} {a b : Nat} (h : b ≠ a) : (clr m a).1 b = m.1 b := (clr_off h).1
theorem ZI.clr {m : MM} (h : ZI m) (a : Nat) : ZI (clr m a) := fun b j => by
  by_cases z : b = a
  · show (if b = a then (0 : Int32) else m.1 b j) = 0
    rw [if_pos z]
  · rw [clr_I z]; exact h b j
theorem ZI.r {m : MM} (h : ZI m) (a k : Nat) (v : Option Nat) : ZI (sR m a k v) := fun b j => h b j
theorem sr_ne {m : MM} {a k b : Nat} {v : Option Nat} (h : b ≠ a) : (sR m a k v).2.2 b = m.2.2 b := (sR_off h).2.2
theorem mk_len {x0 : Nat} : ∀ (l : List (Nat × Nat × Nat)) (G : GG) (m : MM), (mk x0 l G m).1.1 = G.1 + l.length
  | [], _, _ => rfl
  | q :: r, G, m => by
    show (mk x0 r _ _).1.1 = _
    rw [mk_len r]
    show G.1 + 1 + r.length = G.1 + (r.length + 1)
    omega
theorem mk_old {x0 : Nat} : ∀ (l : List (Nat × Nat × Nat)) (G : GG) (m : MM) (a : Nat), a < G.1 → (mk x0 l G m).1.2.2 a = G.2.2 a
  | [], _, _, _, _ => rfl
  | q :: r, G, m, a, h => by
    show (mk x0 r _ _).1.2.2 a = _
    rw [mk_old r _ _ a (by show a < G.1 + 1; omega), gn_lt h]
theorem mk_new {x0 : Nat} : ∀ (l : List (Nat × Nat × Nat)) (G : GG) (m : MM) (i : Nat) (q : Nat × Nat × Nat), l[i]? = some q → (mk x0 l G m).1.2.2 (G.1 + i) = q.2.2
  | [], _, _, _, _, h => by simp at h
  | q :: r, G, m, 0, q2, h => by
    have e : q = q2 := by simpa using h
    subst e
    show (mk x0 r _ _).1.2.2 (G.1 + 0) = _
    rw [mk_old r _ _ _ (by show G.1 + 0 < G.1 + 1; omega), gn_len, if_pos (Nat.add_zero _)]
  | q :: r, G, m, i + 1, q2, h => by
    have h2 : r[i]? = some q2 := by simpa using h
    have := mk_new (x0 := x0) r (gN G q.2.1 q.2.2) (sR (clr m G.1) x0 q.1 (some G.1)) i q2 h2
    show (mk x0 r _ _).1.2.2 _ = _
    rw [show G.1 + (i + 1) = (gN G q.2.1 q.2.2).1 + i from (by show _ = G.1 + 1 + i; omega)]
    exact this
theorem mk_R {x0 : Nat} : ∀ (l : List (Nat × Nat × Nat)) (G : GG) (m : MM) (a : Nat), a < G.1 → a ≠ x0 → (mk x0 l G m).2.2.2 a = m.2.2 a
  | [], _, _, _, _, _ => rfl
  | q :: r, G, m, a, h, hx => by
    show (mk x0 r _ _).2.2.2 a = _
    rw [mk_R r _ _ a (by show a < G.1 + 1; omega) hx, sr_ne hx, clr_R (by omega)]
theorem mk_I {x0 : Nat} : ∀ (l : List (Nat × Nat × Nat)) (G : GG) (m : MM) (a : Nat), a < G.1 → (mk x0 l G m).2.1 a = m.1 a
  | [], _, _, _, _ => rfl
  | q :: r, G, m, a, h => by
    show (mk x0 r _ _).2.1 a = _
    rw [mk_I r _ _ a (by show a < G.1 + 1; omega), show (sR (clr m G.1) x0 q.1 (some G.1)).1 a = (clr m G.1).1 a from rfl, clr_I (by omega)]
theorem mk_z {x0 : Nat} : ∀ (l : List (Nat × Nat × Nat)) (G : GG) (m : MM) (a j : Nat), m.1 a j = 0 → (mk x0 l G m).2.1 a j = 0
  | [], _, _, _, _, h => h
  | q :: r, G, m, a, j, h => by
    refine mk_z r _ _ a j ?_
    show (clr m G.1).1 a j = 0
    by_cases z : a = G.1
    · show (if a = G.1 then (0 : Int32) else m.1 a j) = 0
      rw [if_pos z]
    · rw [clr_I z]; exact h
theorem mk_off {x0 : Nat} : ∀ (l : List (Nat × Nat × Nat)) (G : GG) (m : MM) (j : Nat), x0 < G.1 → (∀ q ∈ l, j ≠ q.1) → gR (mk x0 l G m).2 x0 j = gR m x0 j
  | [], _, _, _, _, _ => rfl
  | q :: r, G, m, j, h, hj => by
    show gR (mk x0 r _ _).2 x0 j = _
    rw [mk_off r _ _ j (by show x0 < G.1 + 1; omega) (fun q2 h2 => hj q2 (List.mem_cons_of_mem _ h2)), gR_sR, if_neg (fun z => hj q (List.mem_cons_self ..) z.2)]
    show (clr m G.1).2.2 x0 j = _
    rw [clr_R (by omega)]; rfl
theorem mk_at {x0 : Nat} : ∀ (l : List (Nat × Nat × Nat)) (G : GG) (m : MM) (i : Nat) (q : Nat × Nat × Nat), x0 < G.1 → (l.map (·.1)).Nodup → l[i]? = some q → gR (mk x0 l G m).2 x0 q.1 = some (G.1 + i)
  | [], _, _, _, _, _, _, h => by simp at h
  | q :: r, G, m, 0, q2, hx, hn, h => by
    have e : q = q2 := by simpa using h
    subst e
    have hn2 : q.1 ∉ r.map (·.1) := (List.nodup_cons.mp hn).1
    show gR (mk x0 r _ _).2 x0 q.1 = _
    rw [mk_off r _ _ _ (by show x0 < G.1 + 1; omega) (fun q2 h2 z => hn2 (by rw [z]; exact List.mem_map_of_mem h2)), gR_sR, if_pos ⟨rfl, rfl⟩, Nat.add_zero]
  | q :: r, G, m, i + 1, q2, hx, hn, h => by
    have h2 : r[i]? = some q2 := by simpa using h
    have := mk_at (x0 := x0) r (gN G q.2.1 q.2.2) (sR (clr m G.1) x0 q.1 (some G.1)) i q2 (by show x0 < G.1 + 1; omega) (List.nodup_cons.mp hn).2 h2
    show gR (mk x0 r _ _).2 x0 q2.1 = _
    rw [this]
    show some (G.1 + 1 + i) = _
    rw [show G.1 + 1 + i = G.1 + (i + 1) from (by omega)]
theorem mk_Z {x0 : Nat} {l : List (Nat × Nat × Nat)} {G : GG} {m : MM} (h : ZI m) : ZI (mk x0 l G m).2 := fun a j => mk_z l G m a j (h a j)
/-- an object's arrays -/
def e1 : List (Nat × Nat × Nat) := [(0, 12, 12), (1, 12, 12), (2, 14, 12), (3, 12, 96), (4, 12, 8), (5, 12, 8), (6, 12, 6), (7, 12, 6), (8, 12, 6), (9, 12, 12), (10, 12, 26)]
theorem k1 {G : GG} {x0 : Nat} {m : MM} : K_X1_init G x0 m = some (mk x0 e1 G m) := rfl
theorem k2 {G : GG} {x0 : Nat} {m : MM} : K_X2_init G x0 m = some (mk x0 [(0, 12, 26)] G m) := rfl
theorem k7 {G : GG} {x0 : Nat} {m : MM} : K_X7_init G x0 m = some (mk x0 [(0, 12, 200), (1, 12, 189)] G m) := rfl
theorem k8 {G : GG} {x0 : Nat} {m : MM} : K_X8_init G x0 m = some (mk x0 [(0, 13, 2000)] G m) := rfl
theorem k9 {G : GG} {x0 : Nat} {m : MM} : K_X9_init G x0 m = some (mk x0 [(0, 15, 2001)] G m) := rfl
def e11a : List (Nat × Nat × Nat) := [(0, 12, 2000), (2, 12, 4000), (6, 12, 2), (7, 12, 16), (8, 12, 16), (9, 12, 16), (10, 12, 16), (11, 12, 16), (12, 12, 16), (13, 12, 16), (14, 12, 192), (15, 12, 192), (16, 12, 192), (17, 12, 192), (18, 12, 128), (19, 12, 128), (20, 12, 128), (21, 12, 128), (22, 12, 96), (23, 12, 96), (24, 12, 96), (25, 12, 96), (26, 12, 96), (27, 12, 2), (28, 12, 1040), (29, 12, 1040), (30, 12, 1040), (31, 12, 1040), (32, 12, 1040), (33, 12, 2), (34, 12, 4200), (35, 12, 4200), (36, 12, 4200), (37, 12, 4200), (38, 12, 4200), (39, 12, 4200), (40, 12, 4200), (49, 12, 16), (50, 12, 4200), (51, 12, 4200), (52, 12, 1100)]
def e11b : List (Nat × Nat × Nat) := [(56, 12, 8), (57, 12, 96), (58, 12, 48), (59, 12, 8), (60, 12, 200), (65, 12, 30), (66, 12, 30), (67, 12, 30), (68, 12, 30), (69, 12, 2100), (73, 12, 12)]
set_option maxRecDepth 20000 in
set_option maxHeartbeats 2000000 in
theorem k11 {G : GG} {x0 : Nat} {m : MM} : K_X11_init G x0 m = some (mk x0 e11b (mk x0 e11a G m).1 (sI (mk x0 e11a G m).2 x0 55 (-1000009))) := rfl
theorem bg_e {β : Type} {x : Option (GG × MM)} {f : GG → MM → Option β} {g : GG} {m1 : MM} (h : x = some (g, m1)) : bg x f = f g m1 := by rw [h]; rfl
/-- one Enumeration of a program -/
def kstp (k : Int32) (G : GG) (x0 : Nat) (M : MM) (f : GG → MM → Option (GG × MM)) : Option (GG × MM) :=
  nb (gR M x0 0) fun b => if nI (G.2.2 b) ≤ k then none else nb (gR M x0 0) fun b2 => bg (K_X1_init (gN G 1 0) G.1 (clr M G.1)) fun g m => ib k (g.2.2 b2) <| f g (sR m b2 k.toNatClampNeg (some G.1))
def e6 : List (Nat × Nat × Nat) := [(0, 16, 8), (1, 12, 8), (2, 15, 2000)]
theorem k6 {G : GG} {x0 : Nat} {m : MM} : K_X6_init G x0 m = kstp 0 (mk x0 e6 G m).1 x0 (mk x0 e6 G m).2 (fun g m => kstp 1 g x0 m (fun g m => kstp 2 g x0 m (fun g m => kstp 3 g x0 m (fun g m => kstp 4 g x0 m (fun g m => kstp 5 g x0 m (fun g m => kstp 6 g x0 m (fun g m => kstp 7 g x0 m (fun g m => nb (gR m x0 0) fun b => if ¬ (nI (g.2.2 b)) ≤ 8 then none else some (g, m))))))))) := rfl
/-- a program with its first k Enumerations -/
def SP (G0 : GG) (M0 : MM) (x0 k : Nat) (G : GG) (M : MM) : Prop := G.1 = x0 + 4 + 12 * k ∧ (gR M x0 0 = some (x0 + 1) ∧ gR M x0 1 = some (x0 + 2) ∧ gR M x0 2 = some (x0 + 3)) ∧ (G.2.2 (x0 + 1) = 8 ∧ G.2.2 (x0 + 2) = 8 ∧ G.2.2 (x0 + 3) = 2000) ∧ (∀ e, e < k → gR M (x0 + 1) e = some (x0 + 4 + 12 * e) ∧ LE G M (x0 + 4 + 12 * e)) ∧ (∀ a, a < x0 → G.2.2 a = G0.2.2 a ∧ M.2.2 a = M0.2.2 a) ∧ (ZI M0 → ZI M)
theorem kstp_e {G0 G : GG} {M0 M : MM} {x0 k : Nat} {f : GG → MM → Option (GG × MM)} (h : SP G0 M0 x0 k G M) (hk : k < 8) : ∃ G1 M1, kstp (nI k) G x0 M f = f G1 M1 ∧ SP G0 M0 x0 (k + 1) G1 M1 := by
  obtain ⟨h1, ⟨h2, h3, h4⟩, ⟨h5, h6, h7⟩, h8, h9, h10⟩ := h
  have hG1 : (gN G 1 0).1 = G.1 + 1 := rfl
  have oL : ∀ a, a < G.1 → (mk G.1 e1 (gN G 1 0) (clr M G.1)).1.2.2 a = G.2.2 a := fun a ha => by rw [mk_old _ _ _ a (by omega), gn_lt ha]
  have oR : ∀ a, a < G.1 → (mk G.1 e1 (gN G 1 0) (clr M G.1)).2.2.2 a = M.2.2 a := fun a ha => by rw [mk_R _ _ _ a (by omega) (by omega), clr_R (by omega)]
  refine ⟨(mk G.1 e1 (gN G 1 0) (clr M G.1)).1, sR (mk G.1 e1 (gN G 1 0) (clr M G.1)).2 (x0 + 1) k (some G.1), ?_, ?_⟩
  · unfold kstp
    rw [nb_e h2]
    rw [h5, if_neg (fun z => absurd ((nI_leI (by omega) (by omega)).mp z) (by omega)), nb_e h2]
    rw [k1, bg_e rfl, oL _ (by omega), h5, ib_n (by omega) (by omega), nI_clamp (n := k) (by omega)]
  · refine ⟨by rw [mk_len, hG1, h1]; show _ = _; simp [e1]; omega, ⟨?_, ?_, ?_⟩, ⟨?_, ?_, ?_⟩, fun e he => ?_, fun a ha => ⟨?_, ?_⟩, fun z => ?_⟩
    · rw [gR_sR, if_neg (by omega)]; exact (congrFun (oR x0 (by omega)) 0).trans h2
    · rw [gR_sR, if_neg (by omega)]; exact (congrFun (oR x0 (by omega)) 1).trans h3
    · rw [gR_sR, if_neg (by omega)]; exact (congrFun (oR x0 (by omega)) 2).trans h4
    · rw [oL _ (by omega)]; exact h5
    · rw [oL _ (by omega)]; exact h6
    · rw [oL _ (by omega)]; exact h7
    · by_cases z : e = k
      · subst z
        refine ⟨by rw [gR_sR, if_pos ⟨rfl, rfl⟩, h1], fun i hi => ⟨?_, ?_⟩⟩
        · rw [gR_sR, if_neg (by omega), ← h1]
          have hi2 : ∃ q, e1[i]? = some q ∧ q.1 = i := by
            match i, hi with
            | 0, _ => exact ⟨_, rfl, rfl⟩
            | 1, _ => exact ⟨_, rfl, rfl⟩
            | 2, _ => exact ⟨_, rfl, rfl⟩
            | 3, _ => exact ⟨_, rfl, rfl⟩
            | 4, _ => exact ⟨_, rfl, rfl⟩
            | 5, _ => exact ⟨_, rfl, rfl⟩
            | 6, _ => exact ⟨_, rfl, rfl⟩
            | 7, _ => exact ⟨_, rfl, rfl⟩
            | 8, _ => exact ⟨_, rfl, rfl⟩
            | 9, _ => exact ⟨_, rfl, rfl⟩
            | 10, _ => exact ⟨_, rfl, rfl⟩
            | i + 11, hi => exact absurd hi (by omega)
          obtain ⟨q, q1, q2⟩ := hi2
          have := mk_at e1 (gN G 1 0) (clr M G.1) i q (x0 := G.1) (by omega) (by decide) q1
          rw [q2] at this
          exact this
        · rw [← h1]
          have hi2 : ∃ q, e1[i]? = some q ∧ q.2.2 = esz i := by
            match i, hi with
            | 0, _ => exact ⟨_, rfl, rfl⟩
            | 1, _ => exact ⟨_, rfl, rfl⟩
            | 2, _ => exact ⟨_, rfl, rfl⟩
            | 3, _ => exact ⟨_, rfl, rfl⟩
            | 4, _ => exact ⟨_, rfl, rfl⟩
            | 5, _ => exact ⟨_, rfl, rfl⟩
            | 6, _ => exact ⟨_, rfl, rfl⟩
            | 7, _ => exact ⟨_, rfl, rfl⟩
            | 8, _ => exact ⟨_, rfl, rfl⟩
            | 9, _ => exact ⟨_, rfl, rfl⟩
            | 10, _ => exact ⟨_, rfl, rfl⟩
            | i + 11, hi => exact absurd hi (by omega)
          obtain ⟨q, q1, q2⟩ := hi2
          rw [← q2]
          exact mk_new (x0 := G.1) e1 (gN G 1 0) (clr M G.1) i q q1
      · obtain ⟨a1, a2⟩ := h8 e (by omega)
        refine ⟨by rw [gR_sR, if_neg (by omega)]; exact (congrFun (oR (x0 + 1) (by omega)) e).trans a1, fun i hi => ⟨?_, ?_⟩⟩
        · rw [gR_sR, if_neg (by omega)]
          exact (congrFun (oR _ (by omega)) i).trans (a2 i hi).1
        · rw [oL _ (by omega)]
          exact (a2 i hi).2
    · rw [oL _ (by omega)]; exact (h9 a ha).1
    · rw [sr_ne (by omega), oR _ (by omega)]; exact (h9 a ha).2
    · exact (mk_Z ((h10 z).clr _)).r _ _ _
theorem sp_0 {G : GG} {m : MM} {x0 : Nat} (hx : G.1 = x0 + 1) : SP G m x0 0 (mk x0 e6 G m).1 (mk x0 e6 G m).2 := by
  refine ⟨by rw [mk_len, hx]; rfl, ⟨?_, ?_, ?_⟩, ⟨?_, ?_, ?_⟩, fun e he => absurd he (by omega), fun a ha => ⟨mk_old _ _ _ a (by omega), mk_R _ _ _ a (by omega) (by omega)⟩, fun z => mk_Z z⟩
  · have := mk_at e6 G m 0 (0, 16, 8) (x0 := x0) (by omega) (by decide) rfl
    rw [hx] at this; exact this
  · have := mk_at e6 G m 1 (1, 12, 8) (x0 := x0) (by omega) (by decide) rfl
    rw [hx] at this; exact this
  · have := mk_at e6 G m 2 (2, 15, 2000) (x0 := x0) (by omega) (by decide) rfl
    rw [hx] at this; exact this
  · have := mk_new e6 G m 0 (0, 16, 8) (x0 := x0) rfl
    rw [hx] at this; exact this
  · have := mk_new e6 G m 1 (1, 12, 8) (x0 := x0) rfl
    rw [hx] at this; exact this
  · have := mk_new e6 G m 2 (2, 15, 2000) (x0 := x0) rfl
    rw [hx] at this; exact this
theorem k6_e {G : GG} {m : MM} {x0 : Nat} (hx : G.1 = x0 + 1) : ∃ G9 m9, K_X6_init G x0 m = some (G9, m9) ∧ SP G m x0 8 G9 m9 := by
  rw [k6]
  obtain ⟨g1, m1, e1, s1⟩ := kstp_e (sp_0 (m := m) hx) (by omega) (f := (fun g m => kstp 1 g x0 m (fun g m => kstp 2 g x0 m (fun g m => kstp 3 g x0 m (fun g m => kstp 4 g x0 m (fun g m => kstp 5 g x0 m (fun g m => kstp 6 g x0 m (fun g m => kstp 7 g x0 m (fun g m => nb (gR m x0 0) fun b => if ¬ (nI (g.2.2 b)) ≤ 8 then none else some (g, m))))))))))
  rw [show (0 : Int32) = nI 0 from rfl, e1]
  clear e1
  obtain ⟨g2, m2, e2, s2⟩ := kstp_e s1 (by omega) (f := (fun g m => kstp 2 g x0 m (fun g m => kstp 3 g x0 m (fun g m => kstp 4 g x0 m (fun g m => kstp 5 g x0 m (fun g m => kstp 6 g x0 m (fun g m => kstp 7 g x0 m (fun g m => nb (gR m x0 0) fun b => if ¬ (nI (g.2.2 b)) ≤ 8 then none else some (g, m)))))))))
  rw [show (1 : Int32) = nI 1 from rfl, e2]
  clear e2
  obtain ⟨g3, m3, e3, s3⟩ := kstp_e s2 (by omega) (f := (fun g m => kstp 3 g x0 m (fun g m => kstp 4 g x0 m (fun g m => kstp 5 g x0 m (fun g m => kstp 6 g x0 m (fun g m => kstp 7 g x0 m (fun g m => nb (gR m x0 0) fun b => if ¬ (nI (g.2.2 b)) ≤ 8 then none else some (g, m))))))))
  rw [show (2 : Int32) = nI 2 from rfl, e3]
  clear e3
  obtain ⟨g4, m4, e4, s4⟩ := kstp_e s3 (by omega) (f := (fun g m => kstp 4 g x0 m (fun g m => kstp 5 g x0 m (fun g m => kstp 6 g x0 m (fun g m => kstp 7 g x0 m (fun g m => nb (gR m x0 0) fun b => if ¬ (nI (g.2.2 b)) ≤ 8 then none else some (g, m)))))))
  rw [show (3 : Int32) = nI 3 from rfl, e4]
  clear e4
  obtain ⟨g5, m5, e5, s5⟩ := kstp_e s4 (by omega) (f := (fun g m => kstp 5 g x0 m (fun g m => kstp 6 g x0 m (fun g m => kstp 7 g x0 m (fun g m => nb (gR m x0 0) fun b => if ¬ (nI (g.2.2 b)) ≤ 8 then none else some (g, m))))))
  rw [show (4 : Int32) = nI 4 from rfl, e5]
  clear e5
  obtain ⟨g6, m6, e6, s6⟩ := kstp_e s5 (by omega) (f := (fun g m => kstp 6 g x0 m (fun g m => kstp 7 g x0 m (fun g m => nb (gR m x0 0) fun b => if ¬ (nI (g.2.2 b)) ≤ 8 then none else some (g, m)))))
  rw [show (5 : Int32) = nI 5 from rfl, e6]
  clear e6
  obtain ⟨g7, m7, e7, s7⟩ := kstp_e s6 (by omega) (f := (fun g m => kstp 7 g x0 m (fun g m => nb (gR m x0 0) fun b => if ¬ (nI (g.2.2 b)) ≤ 8 then none else some (g, m))))
  rw [show (6 : Int32) = nI 6 from rfl, e7]
  clear e7
  obtain ⟨g8, m8, e8, s8⟩ := kstp_e s7 (by omega) (f := (fun g m => nb (gR m x0 0) fun b => if ¬ (nI (g.2.2 b)) ≤ 8 then none else some (g, m)))
  rw [show (7 : Int32) = nI 7 from rfl, e8]
  clear e8
  refine ⟨g8, m8, ?_, s8⟩
  rw [nb_e s8.2.1.1]
  rw [s8.2.2.1.1, if_neg (by decide)]
