/-! ===== L2: pure rows. Memory reads behind writes ===== -/
theorem gI_sI {m : MM} {a k b j : Nat} {v : Int32} : gI (sI m a k v) b j = if b = a ∧ j = k then v else gI m b j := rfl
theorem gI_sI_eq {m : MM} {a k : Nat} {v : Int32} : gI (sI m a k v) a k = v := by simp [gI_sI]
theorem gI_sI_ne {m : MM} {a k b j : Nat} {v : Int32} (h : b ≠ a ∨ j ≠ k) : gI (sI m a k v) b j = gI m b j := by
  rw [gI_sI, if_neg (fun q => h.elim (fun z => z q.1) (fun z => z q.2))]
theorem gR_sI {m : MM} {a k b j : Nat} {v : Int32} : gR (sI m a k v) b j = gR m b j := rfl
theorem gL_sI {m : MM} {a k b j : Nat} {v : Int32} : gL (sI m a k v) b j = gL m b j := rfl
theorem gI_sL {m : MM} {a k b j : Nat} {v : Int64} : gI (sL m a k v) b j = gI m b j := rfl
theorem gR_sL {m : MM} {a k b j : Nat} {v : Int64} : gR (sL m a k v) b j = gR m b j := rfl
theorem gL_sL {m : MM} {a k b j : Nat} {v : Int64} : gL (sL m a k v) b j = if b = a ∧ j = k then v else gL m b j := rfl
theorem gI_sR {m : MM} {a k b j : Nat} {v : Option Nat} : gI (sR m a k v) b j = gI m b j := rfl
theorem gL_sR {m : MM} {a k b j : Nat} {v : Option Nat} : gL (sR m a k v) b j = gL m b j := rfl
theorem gR_sR {m : MM} {a k b j : Nat} {v : Option Nat} : gR (sR m a k v) b j = if b = a ∧ j = k then v else gR m b j := rfl
theorem nb_e {α β : Type} {b : α} {x : Option α} {f : α → Option β} (h : x = some b) : nb x f = f b := by subst h; rfl
theorem el_e {α β : Type} {b : α} {x : Option α} {A : β} {f : α → β} (h : x = some b) : el x A f = f b := by subst h; rfl
theorem el_n {α β : Type} {x : Option α} {A : β} {f : α → β} (h : x = none) : el x A f = A := by subst h; rfl
theorem bd_e {α β : Type} {r : α} {m1 : MM} {x : Option (α × MM)} {f : α → MM → Option β} (h : x = some (r, m1)) : bd x f = f r m1 := by subst h; rfl
theorem ib_e {α : Type} {i : Int32} {n : Nat} {A : Option α} (h : vp_in i n) : ib i n A = A := by
  unfold ib
  rw [if_neg h]
theorem ib_n {α : Type} {i n : Nat} {A : Option α} (h : i < n) (hn : n < 2 ^ 31) : ib (nI i) n A = A := ib_e (vp_in_nI h hn)
theorem nz_e {α : Type} {y : Int32} {A : Option α} (h : ¬ y = 0) : nz y A = A := by
  unfold nz
  rw [if_neg h]
/-! ===== bytes ===== -/
def isLet (x : Int32) : Bool := (decide (97 ≤ x) && decide (x ≤ 122)) || (decide (65 ≤ x) && decide (x ≤ 90))
def isDig (x : Int32) : Bool := decide (48 ≤ x) && decide (x ≤ 57)
def isAl (x : Int32) : Bool := isLet x || isDig x
theorem i32_lt {x y : Int32} : ¬ x < y ↔ y ≤ x := Int32.not_lt
theorem i32_le {x y : Int32} : ¬ x ≤ y ↔ y < x := Int32.not_le
/-- a class's tape at t: its length, its bytes (-1 behind the end) -/
def TP (G : GG) (m : MM) (t len : Nat) (B : Nat → Int32) : Prop := gR m t 0 = some (t + 1) ∧ G.2.2 (t + 1) = 2000 ∧ gI m t 1 = nI len ∧ len ≤ 2000 ∧ (∀ i, i < len → gI m (t + 1) i &&& 255 = B i) ∧ ∀ i, len ≤ i → B i = -1
theorem tp_byteAt {G : GG} {m : MM} {t len : Nat} {B : Nat → Int32} (h : TP G m t len B) {i : Nat} (hi : i < 2 ^ 31) : M_X8_byteAt G t (nI i) m = some (B i, m) := by
  obtain ⟨h1, h2, h3, h4, h5, h6⟩ := h
  unfold M_X8_byteAt
  rw [if_neg (nI_pos hi), h3]
  by_cases hl : len ≤ i
  · rw [if_pos ((nI_leI (by omega) hi).mpr hl), h6 i hl]
  · rw [if_neg (fun q => hl ((nI_leI (by omega) hi).mp q)), nb_e h1, h2, if_pos ((nI_ltI hi (by decide)).mpr (by omega)), ib_n (by omega) (by decide), nI_clamp hi, h5 i (by omega)]
theorem tp_isLet {G : GG} {m : MM} {t len : Nat} {B : Nat → Int32} (h : TP G m t len B) {i : Nat} (hi : i < 2 ^ 31) : M_X8_isLetterAt G t (nI i) m = some (isLet (B i), m) := by
  unfold M_X8_isLetterAt
  rw [bd_e (tp_byteAt h hi)]
  unfold B_X8_isLetterAt_18 isLet
  generalize B i = x
  by_cases h1 : x < 97 <;> by_cases h2 : x ≤ 122 <;> by_cases h3 : x < 65 <;> by_cases h4 : 90 < x <;> simp [h1, h2, h3, h4] <;> (try simp only [i32_lt, i32_le] at *) <;> (try simp_all) <;> (try (exfalso; simp only [Int32.lt_iff_toInt_lt, Int32.le_iff_toInt_le] at *; simp at *; omega))
/-- nothing changes but at these addresses -/
def Off (m m' : MM) (l : List Nat) : Prop := ∀ a, a ∉ l → m'.1 a = m.1 a ∧ m'.2.1 a = m.2.1 a ∧ m'.2.2 a = m.2.2 a
theorem Off.rf {m : MM} {l : List Nat} : Off m m l := fun _ _ => ⟨rfl, rfl, rfl⟩
theorem Off.tr {m m1 m2 : MM} {l l2 : List Nat} (h : Off m m1 l) (h2 : Off m1 m2 l2) : Off m m2 (l ++ l2) := by
  intro a ha
  rw [List.mem_append] at ha
  obtain ⟨a1, a2, a3⟩ := h a (fun q => ha (Or.inl q))
  obtain ⟨b1, b2, b3⟩ := h2 a (fun q => ha (Or.inr q))
  exact ⟨b1.trans a1, b2.trans a2, b3.trans a3⟩
theorem Off.tr1 {m m1 m2 : MM} {l : List Nat} (h : Off m m1 l) (h2 : Off m1 m2 l) : Off m m2 l := by
  intro a ha
  obtain ⟨a1, a2, a3⟩ := h a ha
  obtain ⟨b1, b2, b3⟩ := h2 a ha
  exact ⟨b1.trans a1, b2.trans a2, b3.trans a3⟩
theorem Off.mono {m m1 : MM} {l l2 : List Nat} (h : Off m m1 l) (hl : ∀ a ∈ l, a ∈ l2) : Off m m1 l2 := fun a ha => h a (fun q => ha (hl a q))
theorem Off.sI {m : MM} {a k : Nat} {v : Int32} : Off m (sI m a k v) [a] := fun b hb => sI_off (fun q => hb (by simp [q]))
theorem Off.sL {m : MM} {a k : Nat} {v : Int64} : Off m (sL m a k v) [a] := fun b hb => sL_off (fun q => hb (by simp [q]))
theorem Off.sR {m : MM} {a k : Nat} {v : Option Nat} : Off m (sR m a k v) [a] := fun b hb => sR_off (fun q => hb (by simp [q]))
theorem Off.I {m m1 : MM} {l : List Nat} (h : Off m m1 l) {a : Nat} (ha : a ∉ l) (k : Nat) : gI m1 a k = gI m a k := congrFun (h a ha).1 k
theorem Off.L {m m1 : MM} {l : List Nat} (h : Off m m1 l) {a : Nat} (ha : a ∉ l) (k : Nat) : gL m1 a k = gL m a k := congrFun (h a ha).2.1 k
theorem Off.R {m m1 : MM} {l : List Nat} (h : Off m m1 l) {a : Nat} (ha : a ∉ l) (k : Nat) : gR m1 a k = gR m a k := congrFun (h a ha).2.2 k
theorem TP.kept {G : GG} {m m1 : MM} {t len : Nat} {B : Nat → Int32} {l : List Nat} (h : TP G m t len B) (o : Off m m1 l) (h1 : t ∉ l) (h2 : t + 1 ∉ l) : TP G m1 t len B := by
  obtain ⟨a1, a2, a3, a4, a5, a6⟩ := h
  exact ⟨by rw [o.R h1]; exact a1, a2, by rw [o.I h1]; exact a3, a4, fun i hi => by rw [o.I h2]; exact a5 i hi, a6⟩
