/-! ===== L2: the reference's memory, its text and its tokens ===== -/
/-- where the reference's arrays lie behind its object, by their fields -/
def mo (s : Nat) : Nat := match s with
  | 0 => 1 | 2 => 2 | 6 => 3 | 7 => 4 | 8 => 5 | 9 => 6 | 10 => 7 | 11 => 8 | 12 => 9 | 13 => 10 | 14 => 11 | 15 => 12 | 16 => 13 | 17 => 14 | 18 => 15 | 19 => 16 | 20 => 17 | 21 => 18 | 22 => 19 | 23 => 20 | 24 => 21 | 25 => 22 | 26 => 23 | 27 => 24 | 28 => 25 | 29 => 26 | 30 => 27 | 31 => 28 | 32 => 29 | 33 => 30 | 34 => 31 | 35 => 32 | 36 => 33 | 37 => 34 | 38 => 35 | 39 => 36 | 40 => 37 | 49 => 38 | 50 => 39 | 51 => 40 | 52 => 41 | 56 => 42 | 57 => 43 | 58 => 44 | 59 => 45 | 60 => 46 | 65 => 47 | 66 => 48 | 67 => 49 | 68 => 50 | 69 => 51 | 73 => 52
  | _ => 0
def mln (s : Nat) : Nat := match s with
  | 0 => 2000 | 2 => 4000 | 6 => 2 | 7 => 16 | 8 => 16 | 9 => 16 | 10 => 16 | 11 => 16 | 12 => 16 | 13 => 16 | 14 => 192 | 15 => 192 | 16 => 192 | 17 => 192 | 18 => 128 | 19 => 128 | 20 => 128 | 21 => 128 | 22 => 96 | 23 => 96 | 24 => 96 | 25 => 96 | 26 => 96 | 27 => 2 | 28 => 1040 | 29 => 1040 | 30 => 1040 | 31 => 1040 | 32 => 1040 | 33 => 2 | 34 => 4200 | 35 => 4200 | 36 => 4200 | 37 => 4200 | 38 => 4200 | 39 => 4200 | 40 => 4200 | 49 => 16 | 50 => 4200 | 51 => 4200 | 52 => 1100 | 56 => 8 | 57 => 96 | 58 => 48 | 59 => 8 | 60 => 200 | 65 => 30 | 66 => 30 | 67 => 30 | 68 => 30 | 69 => 2100 | 73 => 12
  | _ => 0
def LM (G : GG) (m : MM) (d : Nat) : Prop := ∀ s, 0 < mo s → gR m d s = some (d + mo s) ∧ G.2.2 (d + mo s) = mln s
/-- what a method of the reference may change: these fields, these arrays (by where they lie) -/
def OM (m m1 : MM) (d : Nat) (S A : List Nat) : Prop := m1.2.1 = m.2.1 ∧ m1.2.2 = m.2.2 ∧ (∀ a, a ≠ d → (∀ o ∈ A, a ≠ d + o) → m1.1 a = m.1 a) ∧ ∀ k, k ∉ S → gI m1 d k = gI m d k
theorem OM.rf {m : MM} {d : Nat} {S A : List Nat} : OM m m d S A := ⟨rfl, rfl, fun _ _ _ => rfl, fun _ _ => rfl⟩
theorem OM.tr {m m1 m2 : MM} {d : Nat} {S A S2 A2 : List Nat} (h : OM m m1 d S A) (h2 : OM m1 m2 d S2 A2) : OM m m2 d (S ++ S2) (A ++ A2) := by
  obtain ⟨a1, a2, a3, a4⟩ := h
  obtain ⟨b1, b2, b3, b4⟩ := h2
  refine ⟨b1.trans a1, b2.trans a2, fun a h1 h2 => ?_, fun k hk => ?_⟩
  · exact (b3 a h1 (fun o ho => h2 o (List.mem_append.mpr (Or.inr ho)))).trans (a3 a h1 (fun o ho => h2 o (List.mem_append.mpr (Or.inl ho))))
  · rw [List.mem_append] at hk
    exact (b4 k (fun q => hk (Or.inr q))).trans (a4 k (fun q => hk (Or.inl q)))
theorem OM.mono {m m1 : MM} {d : Nat} {S A S2 A2 : List Nat} (h : OM m m1 d S A) (hS : ∀ a ∈ S, a ∈ S2) (hA : ∀ a ∈ A, a ∈ A2) : OM m m1 d S2 A2 :=
  ⟨h.1, h.2.1, fun a h1 h2 => h.2.2.1 a h1 (fun o ho => h2 o (hA o ho)), fun k hk => h.2.2.2 k (fun q => hk (hS k q))⟩
theorem OM.tr1 {m m1 m2 : MM} {d : Nat} {S A : List Nat} (h : OM m m1 d S A) (h2 : OM m1 m2 d S A) : OM m m2 d S A := (h.tr h2).mono (by simp) (by simp)
theorem OM.f {m : MM} {d k : Nat} {v : Int32} : OM m (sI m d k v) d [k] [] := by
  refine ⟨rfl, rfl, fun a h1 _ => (sI_off h1).1, fun j hj => gI_sI_ne (Or.inr (by simpa using hj))⟩
theorem OM.a {m : MM} {d o k : Nat} {v : Int32} (ho : 0 < o) : OM m (sI m (d + o) k v) d [] [o] := by
  refine ⟨rfl, rfl, fun a h1 h2 => (sI_off (h2 o (by simp))).1, fun j _ => gI_sI_ne (Or.inl (by omega))⟩
theorem OM.I {m m1 : MM} {d : Nat} {S A : List Nat} (h : OM m m1 d S A) {k : Nat} (hk : k ∉ S) : gI m1 d k = gI m d k := h.2.2.2 k hk
theorem OM.A {m m1 : MM} {d : Nat} {S A : List Nat} (h : OM m m1 d S A) {o : Nat} (ho : 0 < o) (hk : o ∉ A) (j : Nat) : gI m1 (d + o) j = gI m (d + o) j := congrFun (h.2.2.1 (d + o) (by omega) (fun x hx q => hk (by rw [show o = x by omega]; exact hx))) j
theorem LM.kept {G : GG} {m m1 : MM} {d : Nat} {S A : List Nat} (h : LM G m d) (o : OM m m1 d S A) : LM G m1 d := fun s hs => by
  obtain ⟨h1, h2⟩ := h s hs
  exact ⟨by rw [← h1]; show m1.2.2 d s = m.2.2 d s; rw [o.2.1], h2⟩
theorem mr_0 {G : GG} {m : MM} {d : Nat} (h : LM G m d) : gR m d 0 = some (d + 1) := (h 0 (by decide)).1
theorem mz_0 {G : GG} {m : MM} {d : Nat} (h : LM G m d) : G.2.2 (d + 1) = 2000 := (h 0 (by decide)).2
theorem mr_2 {G : GG} {m : MM} {d : Nat} (h : LM G m d) : gR m d 2 = some (d + 2) := (h 2 (by decide)).1
theorem mz_2 {G : GG} {m : MM} {d : Nat} (h : LM G m d) : G.2.2 (d + 2) = 4000 := (h 2 (by decide)).2
theorem mr_6 {G : GG} {m : MM} {d : Nat} (h : LM G m d) : gR m d 6 = some (d + 3) := (h 6 (by decide)).1
theorem mz_6 {G : GG} {m : MM} {d : Nat} (h : LM G m d) : G.2.2 (d + 3) = 2 := (h 6 (by decide)).2
theorem mr_7 {G : GG} {m : MM} {d : Nat} (h : LM G m d) : gR m d 7 = some (d + 4) := (h 7 (by decide)).1
theorem mz_7 {G : GG} {m : MM} {d : Nat} (h : LM G m d) : G.2.2 (d + 4) = 16 := (h 7 (by decide)).2
theorem mr_8 {G : GG} {m : MM} {d : Nat} (h : LM G m d) : gR m d 8 = some (d + 5) := (h 8 (by decide)).1
theorem mz_8 {G : GG} {m : MM} {d : Nat} (h : LM G m d) : G.2.2 (d + 5) = 16 := (h 8 (by decide)).2
theorem mr_9 {G : GG} {m : MM} {d : Nat} (h : LM G m d) : gR m d 9 = some (d + 6) := (h 9 (by decide)).1
theorem mz_9 {G : GG} {m : MM} {d : Nat} (h : LM G m d) : G.2.2 (d + 6) = 16 := (h 9 (by decide)).2
theorem mr_10 {G : GG} {m : MM} {d : Nat} (h : LM G m d) : gR m d 10 = some (d + 7) := (h 10 (by decide)).1
theorem mz_10 {G : GG} {m : MM} {d : Nat} (h : LM G m d) : G.2.2 (d + 7) = 16 := (h 10 (by decide)).2
theorem mr_11 {G : GG} {m : MM} {d : Nat} (h : LM G m d) : gR m d 11 = some (d + 8) := (h 11 (by decide)).1
theorem mz_11 {G : GG} {m : MM} {d : Nat} (h : LM G m d) : G.2.2 (d + 8) = 16 := (h 11 (by decide)).2
theorem mr_12 {G : GG} {m : MM} {d : Nat} (h : LM G m d) : gR m d 12 = some (d + 9) := (h 12 (by decide)).1
theorem mz_12 {G : GG} {m : MM} {d : Nat} (h : LM G m d) : G.2.2 (d + 9) = 16 := (h 12 (by decide)).2
theorem mr_13 {G : GG} {m : MM} {d : Nat} (h : LM G m d) : gR m d 13 = some (d + 10) := (h 13 (by decide)).1
theorem mz_13 {G : GG} {m : MM} {d : Nat} (h : LM G m d) : G.2.2 (d + 10) = 16 := (h 13 (by decide)).2
theorem mr_14 {G : GG} {m : MM} {d : Nat} (h : LM G m d) : gR m d 14 = some (d + 11) := (h 14 (by decide)).1
theorem mz_14 {G : GG} {m : MM} {d : Nat} (h : LM G m d) : G.2.2 (d + 11) = 192 := (h 14 (by decide)).2
theorem mr_15 {G : GG} {m : MM} {d : Nat} (h : LM G m d) : gR m d 15 = some (d + 12) := (h 15 (by decide)).1
theorem mz_15 {G : GG} {m : MM} {d : Nat} (h : LM G m d) : G.2.2 (d + 12) = 192 := (h 15 (by decide)).2
theorem mr_16 {G : GG} {m : MM} {d : Nat} (h : LM G m d) : gR m d 16 = some (d + 13) := (h 16 (by decide)).1
theorem mz_16 {G : GG} {m : MM} {d : Nat} (h : LM G m d) : G.2.2 (d + 13) = 192 := (h 16 (by decide)).2
theorem mr_17 {G : GG} {m : MM} {d : Nat} (h : LM G m d) : gR m d 17 = some (d + 14) := (h 17 (by decide)).1
theorem mz_17 {G : GG} {m : MM} {d : Nat} (h : LM G m d) : G.2.2 (d + 14) = 192 := (h 17 (by decide)).2
theorem mr_18 {G : GG} {m : MM} {d : Nat} (h : LM G m d) : gR m d 18 = some (d + 15) := (h 18 (by decide)).1
theorem mz_18 {G : GG} {m : MM} {d : Nat} (h : LM G m d) : G.2.2 (d + 15) = 128 := (h 18 (by decide)).2
theorem mr_19 {G : GG} {m : MM} {d : Nat} (h : LM G m d) : gR m d 19 = some (d + 16) := (h 19 (by decide)).1
theorem mz_19 {G : GG} {m : MM} {d : Nat} (h : LM G m d) : G.2.2 (d + 16) = 128 := (h 19 (by decide)).2
theorem mr_20 {G : GG} {m : MM} {d : Nat} (h : LM G m d) : gR m d 20 = some (d + 17) := (h 20 (by decide)).1
theorem mz_20 {G : GG} {m : MM} {d : Nat} (h : LM G m d) : G.2.2 (d + 17) = 128 := (h 20 (by decide)).2
theorem mr_21 {G : GG} {m : MM} {d : Nat} (h : LM G m d) : gR m d 21 = some (d + 18) := (h 21 (by decide)).1
theorem mz_21 {G : GG} {m : MM} {d : Nat} (h : LM G m d) : G.2.2 (d + 18) = 128 := (h 21 (by decide)).2
theorem mr_22 {G : GG} {m : MM} {d : Nat} (h : LM G m d) : gR m d 22 = some (d + 19) := (h 22 (by decide)).1
theorem mz_22 {G : GG} {m : MM} {d : Nat} (h : LM G m d) : G.2.2 (d + 19) = 96 := (h 22 (by decide)).2
theorem mr_23 {G : GG} {m : MM} {d : Nat} (h : LM G m d) : gR m d 23 = some (d + 20) := (h 23 (by decide)).1
theorem mz_23 {G : GG} {m : MM} {d : Nat} (h : LM G m d) : G.2.2 (d + 20) = 96 := (h 23 (by decide)).2
theorem mr_24 {G : GG} {m : MM} {d : Nat} (h : LM G m d) : gR m d 24 = some (d + 21) := (h 24 (by decide)).1
theorem mz_24 {G : GG} {m : MM} {d : Nat} (h : LM G m d) : G.2.2 (d + 21) = 96 := (h 24 (by decide)).2
theorem mr_25 {G : GG} {m : MM} {d : Nat} (h : LM G m d) : gR m d 25 = some (d + 22) := (h 25 (by decide)).1
theorem mz_25 {G : GG} {m : MM} {d : Nat} (h : LM G m d) : G.2.2 (d + 22) = 96 := (h 25 (by decide)).2
theorem mr_26 {G : GG} {m : MM} {d : Nat} (h : LM G m d) : gR m d 26 = some (d + 23) := (h 26 (by decide)).1
theorem mz_26 {G : GG} {m : MM} {d : Nat} (h : LM G m d) : G.2.2 (d + 23) = 96 := (h 26 (by decide)).2
theorem mr_27 {G : GG} {m : MM} {d : Nat} (h : LM G m d) : gR m d 27 = some (d + 24) := (h 27 (by decide)).1
theorem mz_27 {G : GG} {m : MM} {d : Nat} (h : LM G m d) : G.2.2 (d + 24) = 2 := (h 27 (by decide)).2
theorem mr_28 {G : GG} {m : MM} {d : Nat} (h : LM G m d) : gR m d 28 = some (d + 25) := (h 28 (by decide)).1
theorem mz_28 {G : GG} {m : MM} {d : Nat} (h : LM G m d) : G.2.2 (d + 25) = 1040 := (h 28 (by decide)).2
theorem mr_29 {G : GG} {m : MM} {d : Nat} (h : LM G m d) : gR m d 29 = some (d + 26) := (h 29 (by decide)).1
theorem mz_29 {G : GG} {m : MM} {d : Nat} (h : LM G m d) : G.2.2 (d + 26) = 1040 := (h 29 (by decide)).2
theorem mr_30 {G : GG} {m : MM} {d : Nat} (h : LM G m d) : gR m d 30 = some (d + 27) := (h 30 (by decide)).1
theorem mz_30 {G : GG} {m : MM} {d : Nat} (h : LM G m d) : G.2.2 (d + 27) = 1040 := (h 30 (by decide)).2
theorem mr_31 {G : GG} {m : MM} {d : Nat} (h : LM G m d) : gR m d 31 = some (d + 28) := (h 31 (by decide)).1
theorem mz_31 {G : GG} {m : MM} {d : Nat} (h : LM G m d) : G.2.2 (d + 28) = 1040 := (h 31 (by decide)).2
theorem mr_32 {G : GG} {m : MM} {d : Nat} (h : LM G m d) : gR m d 32 = some (d + 29) := (h 32 (by decide)).1
theorem mz_32 {G : GG} {m : MM} {d : Nat} (h : LM G m d) : G.2.2 (d + 29) = 1040 := (h 32 (by decide)).2
theorem mr_33 {G : GG} {m : MM} {d : Nat} (h : LM G m d) : gR m d 33 = some (d + 30) := (h 33 (by decide)).1
theorem mz_33 {G : GG} {m : MM} {d : Nat} (h : LM G m d) : G.2.2 (d + 30) = 2 := (h 33 (by decide)).2
theorem mr_34 {G : GG} {m : MM} {d : Nat} (h : LM G m d) : gR m d 34 = some (d + 31) := (h 34 (by decide)).1
theorem mz_34 {G : GG} {m : MM} {d : Nat} (h : LM G m d) : G.2.2 (d + 31) = 4200 := (h 34 (by decide)).2
theorem mr_35 {G : GG} {m : MM} {d : Nat} (h : LM G m d) : gR m d 35 = some (d + 32) := (h 35 (by decide)).1
theorem mz_35 {G : GG} {m : MM} {d : Nat} (h : LM G m d) : G.2.2 (d + 32) = 4200 := (h 35 (by decide)).2
theorem mr_36 {G : GG} {m : MM} {d : Nat} (h : LM G m d) : gR m d 36 = some (d + 33) := (h 36 (by decide)).1
theorem mz_36 {G : GG} {m : MM} {d : Nat} (h : LM G m d) : G.2.2 (d + 33) = 4200 := (h 36 (by decide)).2
theorem mr_37 {G : GG} {m : MM} {d : Nat} (h : LM G m d) : gR m d 37 = some (d + 34) := (h 37 (by decide)).1
theorem mz_37 {G : GG} {m : MM} {d : Nat} (h : LM G m d) : G.2.2 (d + 34) = 4200 := (h 37 (by decide)).2
theorem mr_38 {G : GG} {m : MM} {d : Nat} (h : LM G m d) : gR m d 38 = some (d + 35) := (h 38 (by decide)).1
theorem mz_38 {G : GG} {m : MM} {d : Nat} (h : LM G m d) : G.2.2 (d + 35) = 4200 := (h 38 (by decide)).2
theorem mr_39 {G : GG} {m : MM} {d : Nat} (h : LM G m d) : gR m d 39 = some (d + 36) := (h 39 (by decide)).1
theorem mz_39 {G : GG} {m : MM} {d : Nat} (h : LM G m d) : G.2.2 (d + 36) = 4200 := (h 39 (by decide)).2
theorem mr_40 {G : GG} {m : MM} {d : Nat} (h : LM G m d) : gR m d 40 = some (d + 37) := (h 40 (by decide)).1
theorem mz_40 {G : GG} {m : MM} {d : Nat} (h : LM G m d) : G.2.2 (d + 37) = 4200 := (h 40 (by decide)).2
theorem mr_49 {G : GG} {m : MM} {d : Nat} (h : LM G m d) : gR m d 49 = some (d + 38) := (h 49 (by decide)).1
theorem mz_49 {G : GG} {m : MM} {d : Nat} (h : LM G m d) : G.2.2 (d + 38) = 16 := (h 49 (by decide)).2
theorem mr_50 {G : GG} {m : MM} {d : Nat} (h : LM G m d) : gR m d 50 = some (d + 39) := (h 50 (by decide)).1
theorem mz_50 {G : GG} {m : MM} {d : Nat} (h : LM G m d) : G.2.2 (d + 39) = 4200 := (h 50 (by decide)).2
theorem mr_51 {G : GG} {m : MM} {d : Nat} (h : LM G m d) : gR m d 51 = some (d + 40) := (h 51 (by decide)).1
theorem mz_51 {G : GG} {m : MM} {d : Nat} (h : LM G m d) : G.2.2 (d + 40) = 4200 := (h 51 (by decide)).2
theorem mr_52 {G : GG} {m : MM} {d : Nat} (h : LM G m d) : gR m d 52 = some (d + 41) := (h 52 (by decide)).1
theorem mz_52 {G : GG} {m : MM} {d : Nat} (h : LM G m d) : G.2.2 (d + 41) = 1100 := (h 52 (by decide)).2
theorem mr_56 {G : GG} {m : MM} {d : Nat} (h : LM G m d) : gR m d 56 = some (d + 42) := (h 56 (by decide)).1
theorem mz_56 {G : GG} {m : MM} {d : Nat} (h : LM G m d) : G.2.2 (d + 42) = 8 := (h 56 (by decide)).2
theorem mr_57 {G : GG} {m : MM} {d : Nat} (h : LM G m d) : gR m d 57 = some (d + 43) := (h 57 (by decide)).1
theorem mz_57 {G : GG} {m : MM} {d : Nat} (h : LM G m d) : G.2.2 (d + 43) = 96 := (h 57 (by decide)).2
theorem mr_58 {G : GG} {m : MM} {d : Nat} (h : LM G m d) : gR m d 58 = some (d + 44) := (h 58 (by decide)).1
theorem mz_58 {G : GG} {m : MM} {d : Nat} (h : LM G m d) : G.2.2 (d + 44) = 48 := (h 58 (by decide)).2
theorem mr_59 {G : GG} {m : MM} {d : Nat} (h : LM G m d) : gR m d 59 = some (d + 45) := (h 59 (by decide)).1
theorem mz_59 {G : GG} {m : MM} {d : Nat} (h : LM G m d) : G.2.2 (d + 45) = 8 := (h 59 (by decide)).2
theorem mr_60 {G : GG} {m : MM} {d : Nat} (h : LM G m d) : gR m d 60 = some (d + 46) := (h 60 (by decide)).1
theorem mz_60 {G : GG} {m : MM} {d : Nat} (h : LM G m d) : G.2.2 (d + 46) = 200 := (h 60 (by decide)).2
theorem mr_65 {G : GG} {m : MM} {d : Nat} (h : LM G m d) : gR m d 65 = some (d + 47) := (h 65 (by decide)).1
theorem mz_65 {G : GG} {m : MM} {d : Nat} (h : LM G m d) : G.2.2 (d + 47) = 30 := (h 65 (by decide)).2
theorem mr_66 {G : GG} {m : MM} {d : Nat} (h : LM G m d) : gR m d 66 = some (d + 48) := (h 66 (by decide)).1
theorem mz_66 {G : GG} {m : MM} {d : Nat} (h : LM G m d) : G.2.2 (d + 48) = 30 := (h 66 (by decide)).2
theorem mr_67 {G : GG} {m : MM} {d : Nat} (h : LM G m d) : gR m d 67 = some (d + 49) := (h 67 (by decide)).1
theorem mz_67 {G : GG} {m : MM} {d : Nat} (h : LM G m d) : G.2.2 (d + 49) = 30 := (h 67 (by decide)).2
theorem mr_68 {G : GG} {m : MM} {d : Nat} (h : LM G m d) : gR m d 68 = some (d + 50) := (h 68 (by decide)).1
theorem mz_68 {G : GG} {m : MM} {d : Nat} (h : LM G m d) : G.2.2 (d + 50) = 30 := (h 68 (by decide)).2
theorem mr_69 {G : GG} {m : MM} {d : Nat} (h : LM G m d) : gR m d 69 = some (d + 51) := (h 69 (by decide)).1
theorem mz_69 {G : GG} {m : MM} {d : Nat} (h : LM G m d) : G.2.2 (d + 51) = 2100 := (h 69 (by decide)).2
theorem mr_73 {G : GG} {m : MM} {d : Nat} (h : LM G m d) : gR m d 73 = some (d + 52) := (h 73 (by decide)).1
theorem mz_73 {G : GG} {m : MM} {d : Nat} (h : LM G m d) : G.2.2 (d + 52) = 12 := (h 73 (by decide)).2
/-- the reference's text -/
def TM (m : MM) (d tt len : Nat) (B : Nat → Int32) : Prop := gI m d 4 = nI tt ∧ tt ≤ 1 ∧ gI m d 5 = nI len ∧ Tx B len ∧ ∀ i, i < len → gI m (d + 2) (2000 * tt + i) = B i
theorem TM.kept {m m1 : MM} {d tt len : Nat} {B : Nat → Int32} {S A : List Nat} (h : TM m d tt len B) (o : OM m m1 d S A) (h1 : 4 ∉ S) (h2 : 5 ∉ S) (h3 : 2 ∉ A) : TM m1 d tt len B := by
  obtain ⟨a1, a2, a3, a4, a5⟩ := h
  exact ⟨by rw [o.I h1]; exact a1, a2, by rw [o.I h2]; exact a3, a4, fun i hi => by rw [o.A (by decide) h3]; exact a5 i hi⟩
theorem mm_byteAt {G : GG} {m : MM} {d tt len i : Nat} {B : Nat → Int32} (hL : LM G m d) (h : TM m d tt len B) (hi : i < 1000000) : M_X11_byteAt G d (nI i) m = some (B i, m) := by
  obtain ⟨h1, h2, h3, h4, h5⟩ := h
  have hle := h4.1
  unfold M_X11_byteAt
  rw [h3]
  by_cases hl : len ≤ i
  · rw [if_pos ((nI_leI (by omega) (by omega)).mpr hl), h4.2 i hl]
  · rw [if_neg (fun z => hl ((nI_leI (by omega) (by omega)).mp z)), nb_e (mr_2 hL), mz_2 hL, h1, show (2000 : Int32) = nI 2000 from rfl, pk_mul, nI_add, ib_n (by omega) (by decide), nI_clamp (by omega), h5 i (by omega)]
theorem mm_isLet {G : GG} {m : MM} {x : Int32} : M_X11_isLetter G x m = some (isLet x, m) := by
  unfold M_X11_isLetter B_X11_isLetter_12 isLet
  by_cases h1 : x < 97 <;> by_cases h2 : x ≤ 122 <;> by_cases h3 : x < 65 <;> by_cases h4 : 90 < x <;> simp [h1, h2, h3, h4] <;> (try simp only [i32_lt, i32_le] at *) <;> (try simp_all) <;> (try (exfalso; simp only [Int32.lt_iff_toInt_lt, Int32.le_iff_toInt_le] at *; simp at *; omega))
theorem mm_isDig {G : GG} {m : MM} {x : Int32} : M_X11_isDigit G x m = some (isDig x, m) := by
  unfold M_X11_isDigit isDig
  by_cases h1 : x < 48 <;> by_cases h2 : 57 < x <;> simp [h1, h2] <;> (try simp only [i32_lt, i32_le] at *) <;> (try simp_all) <;> (try (exfalso; simp only [Int32.lt_iff_toInt_lt, Int32.le_iff_toInt_le] at *; simp at *; omega))
theorem mm_isSg {G : GG} {m : MM} {x : Int32} : M_X11_isSign G x m = some (isSg x, m) := by
  unfold M_X11_isSign isSg bytS
  repeat' split
  all_goals simp_all
  all_goals (refine ⟨?_, ?_, ?_, ?_, ?_, ?_, ?_, ?_, ?_, ?_, ?_, ?_⟩ <;> (intro q; first | exact absurd q.symm (by assumption) | exact absurd q (by assumption)))
/-- one word of the reference's list, as a number -/
def lw (w : Nat) : Int64 := [1701737837, 7017298113369039732, 6579558, 439854918756, 427071271796, 469785863538, 6386279, 7758188, 482854658917].getD w 0
theorem lw_ok : ∀ w, w < 9 → ∀ k, k < lenS.getD w 0 → ((lw w >>> ((8 * ((nI (lenS.getD w 0) - 1) - nI k)).toInt64 &&& 63)) &&& 255).toInt32 = (bytS.getD w []).getD k 0 := by decide +kernel
theorem mm_spLoop {G : GG} {m : MM} {d tt len p w : Nat} {B : Nat → Int32} (hL : LM G m d) (h : TM m d tt len B) (hw : w < 9) (hp : gI m d 42 = nI p) (hp2 : p < 100000) : ∀ (fu k : Nat) (b : Bool), lenS.getD w 0 - k < fu → k ≤ lenS.getD w 0 → B_X11_spells_18 G fu d (lw w) (nI (lenS.getD w 0)) b (nI k) m = some (b && spl B (p + k) ((bytS.getD w []).drop k), m) := by
  obtain ⟨h1, h2, h3⟩ := st_all w (by omega)
  intro fu
  induction fu with
  | zero => intro k b hr; exact absurd hr (by omega)
  | succ fu ih =>
    intro k b hr hk
    rw [B_X11_spells_18]
    by_cases hl : lenS.getD w 0 ≤ k
    · rw [if_pos ((nI_leI (by omega) (by omega)).mpr hl), List.drop_eq_nil_of_le (by omega)]
      simp [spl]
    · rw [if_neg (fun z => hl ((nI_leI (by omega) (by omega)).mp z))]
      cases b with
      | false => rw [if_neg (by decide)]; simp
      | true =>
        rw [if_pos rfl, hp, nI_add, bd_e (mm_byteAt hL h (by omega)), lw_ok w hw k (by omega), spl_drop (by omega)]
        by_cases he : B (p + k) = (bytS.getD w []).getD k 0
        · rw [if_pos he, if_pos he, nI_1, ih (k + 1) true (by omega) (by omega)]
        · rw [if_neg he, if_neg he, nI_1, ih (k + 1) false (by omega) (by omega)]
          simp
theorem mm_spells {G : GG} {m : MM} {d tt len p r w : Nat} {B : Nat → Int32} (hL : LM G m d) (h : TM m d tt len B) (hw : w < 9) (hp : gI m d 42 = nI p) (hp2 : p < 100000) (hr : gI m d 43 = nI r) (hr2 : r < 100000) : M_X11_spells G d (lw w) (nI (lenS.getD w 0)) m = some (wd B p r w, m) := by
  obtain ⟨h1, h2, h3⟩ := st_all w (by omega)
  unfold M_X11_spells wd
  rw [hr, show (0 : Int32) = nI 0 from nI_0.symm]
  by_cases he : r = lenS.getD w 0
  · rw [if_pos (by rw [he]), mm_spLoop hL h hw hp hp2 FU 0 true (by unfold FU; omega) (by omega), decide_eq_true he]
    rfl
  · rw [if_neg (fun z => he ((nI_eq (by omega) (by omega)).mp z)), mm_spLoop hL h hw hp hp2 FU 0 false (by unfold FU; omega) (by omega), decide_eq_false he]
    rfl
/-- the reference's code of a kind -/
def tc (k : Nat) : Nat := if k < 128 then 3 else if k = 128 then 1 else if k = 129 then 2 else if k = 130 then 0 else if k = 131 then 4 else k - 112
theorem mm_word {G : GG} {m : MM} {d tt len p r : Nat} {B : Nat → Int32} (hL : LM G m d) (h : TM m d tt len B) (hp : gI m d 42 = nI p) (hp2 : p < 100000) (hr : gI m d 43 = nI r) (hr2 : r < 100000) : M_X11_wordAt G d m = some (nI (tc (wk B p r)), m) := by
  have e := fun (w : Nat) (hw : w < 9) => mm_spells (w := w) hL h hw hp hp2 hr hr2
  unfold M_X11_wordAt wk
  rw [bd_e (show M_X11_spells G d 1701737837 4 m = _ from e 0 (by decide))]
  by_cases q0 : wd B p r 0 = true
  · rw [if_pos q0, if_pos q0]; rfl
  rw [if_neg q0, if_neg q0, bd_e (show M_X11_spells G d 7017298113369039732 8 m = _ from e 1 (by decide))]
  by_cases q1 : wd B p r 1 = true
  · rw [if_pos q1, if_pos q1]; rfl
  rw [if_neg q1, if_neg q1, bd_e (show M_X11_spells G d 6579558 3 m = _ from e 2 (by decide))]
  by_cases q2 : wd B p r 2 = true
  · rw [if_pos q2, if_pos q2]; rfl
  rw [if_neg q2, if_neg q2, bd_e (show M_X11_spells G d 439854918756 5 m = _ from e 3 (by decide))]
  by_cases q3 : wd B p r 3 = true
  · rw [if_pos q3, if_pos q3]; rfl
  rw [if_neg q3, if_neg q3, bd_e (show M_X11_spells G d 427071271796 5 m = _ from e 4 (by decide))]
  by_cases q4 : wd B p r 4 = true
  · rw [if_pos q4, if_pos q4]; rfl
  rw [if_neg q4, if_neg q4, bd_e (show M_X11_spells G d 469785863538 5 m = _ from e 5 (by decide))]
  by_cases q5 : wd B p r 5 = true
  · rw [if_pos q5, if_pos q5]; rfl
  rw [if_neg q5, if_neg q5, bd_e (show M_X11_spells G d 6386279 3 m = _ from e 6 (by decide))]
  by_cases q6 : wd B p r 6 = true
  · rw [if_pos q6, if_pos q6]; rfl
  rw [if_neg q6, if_neg q6, bd_e (show M_X11_spells G d 7758188 3 m = _ from e 7 (by decide))]
  by_cases q7 : wd B p r 7 = true
  · rw [if_pos q7, if_pos q7]; rfl
  rw [if_neg q7, if_neg q7, bd_e (show M_X11_spells G d 482854658917 5 m = _ from e 8 (by decide))]
  by_cases q8 : wd B p r 8 = true
  · rw [if_pos q8, if_pos q8]; rfl
  rw [if_neg q8, if_neg q8]; rfl
