/-! ===== L2: reading a text, by class and by words that both share ===== -/
def alRun (B : Nat → Int32) : Nat → Nat → Nat
  | 0, _ => 0
  | f + 1, p => if isAl (B p) = true then alRun B f (p + 1) + 1 else 0
/-- a name's length -/
def nl (B : Nat → Int32) (p : Nat) : Nat := alRun B 2001 p
def dgRun (B : Nat → Int32) : Nat → Nat → Nat
  | 0, _ => 0
  | f + 1, p => if isDig (B p) = true then dgRun B f (p + 1) + 1 else 0
def dgVal (B : Nat → Int32) : Nat → Nat → Int32 → Int32
  | 0, _, v => v
  | k + 1, p, v => dgVal B k (p + 1) (v * 10 + (B p - 48))
def sm (B B' : Nat → Int32) : Nat → Nat → Nat → Bool
  | _, _, 0 => true
  | p, q, n + 1 => if B p = B' q then sm B B' (p + 1) (q + 1) n else false
/-- two places of a text bear the same name -/
def nmEq (B : Nat → Int32) (p q : Nat) : Bool := sm B B p q (nl B p) && decide (nl B q = nl B p)
/-- nothing but -1 behind the end -/
def Tx (B : Nat → Int32) (len : Nat) : Prop := len ≤ 2000 ∧ ∀ i, len ≤ i → B i = -1
theorem TP.tx {G : GG} {m : MM} {t len : Nat} {B : Nat → Int32} (h : TP G m t len B) : Tx B len := by
  obtain ⟨h1, h2, h3, h4, h5, h6⟩ := h
  exact ⟨h4, h6⟩
theorem Tx.al {B : Nat → Int32} {len i : Nat} (h : Tx B len) (hi : len ≤ i) : isAl (B i) = false := by rw [h.2 i hi]; decide
theorem Tx.lt {B : Nat → Int32} {len i : Nat} (h : Tx B len) (hi : isAl (B i) = true) : i < len := by
  rcases Nat.lt_or_ge i len with q | q
  · exact q
  · rw [h.al q] at hi; cases hi
theorem alRun_stab {B : Nat → Int32} {len : Nat} (h : Tx B len) : ∀ f p, len - p ≤ f → alRun B f p = alRun B (len - p) p := by
  intro f
  induction f with
  | zero =>
    intro p hp
    rw [show len - p = 0 by omega]
  | succ f ih =>
    intro p hp
    by_cases hl : len ≤ p
    · rw [show len - p = 0 by omega]
      simp [alRun, h.al hl]
    · rw [show len - p = (len - (p + 1)) + 1 by omega]
      simp only [alRun]
      rw [ih (p + 1) (by omega)]
theorem alRun_le {B : Nat → Int32} {len : Nat} (h : Tx B len) (f p : Nat) : alRun B f p ≤ len - p := by
  induction f generalizing p with
  | zero => simp [alRun]
  | succ f ih =>
    simp only [alRun]
    split
    · rename_i q
      have := h.lt q
      have := ih (p + 1)
      omega
    · omega
theorem nl_le {B : Nat → Int32} {len : Nat} (h : Tx B len) (p : Nat) : nl B p ≤ len - p := alRun_le h _ _
theorem tp_isDig {G : GG} {m : MM} {t len : Nat} {B : Nat → Int32} (h : TP G m t len B) {i : Nat} (hi : i < 2 ^ 31) : M_X8_isDigitAt G t (nI i) m = some (isDig (B i), m) := by
  unfold M_X8_isDigitAt
  rw [bd_e (tp_byteAt h hi)]
  unfold isDig
  generalize B i = x
  by_cases h1 : x < 48 <;> by_cases h2 : 57 < x <;> simp [h1, h2] <;> (try simp only [i32_lt, i32_le] at *) <;> (try simp_all) <;> (try (exfalso; simp only [Int32.lt_iff_toInt_lt, Int32.le_iff_toInt_le] at *; simp at *; omega))
theorem tp_nameLoop {G : GG} {m : MM} {t len : Nat} {B : Nat → Int32} (h : TP G m t len B) {p : Nat} (hp : p < 1000000000) : ∀ (fu r : Nat), len - r < fu → r ≤ len → B_X8_nameLength_2 G fu t (nI p) (nI r) m = some (nI (r + alRun B (len - r) (p + r)), m) := by
  have hT := h.tx
  have h4 := hT.1
  have h3 : gI m t 1 = nI len := h.2.2.1
  intro fu
  induction fu with
  | zero => intro r hr; exact absurd hr (by omega)
  | succ fu ih =>
    intro r hr hrl
    rw [B_X8_nameLength_2, h3]
    by_cases hl : len ≤ r
    · rw [if_pos ((nI_leI (by omega) (by omega)).mpr hl), show len - r = 0 by omega]
      rfl
    · rw [if_neg (fun q => hl ((nI_leI (by omega) (by omega)).mp q)), nI_add, bd_e (tp_isLet h (by omega)), show len - r = (len - (r + 1)) + 1 by omega]
      simp only [alRun, isAl]
      by_cases ha : isLet (B (p + r)) = true
      · rw [if_pos ha, nI_1, ih (r + 1) (by omega) (by omega)]
        simp only [ha, Bool.true_or, if_true]
        rw [show p + (r + 1) = p + r + 1 by omega, show r + 1 + alRun B (len - (r + 1)) (p + r + 1) = r + (alRun B (len - (r + 1)) (p + r + 1) + 1) by omega]
      · rw [if_neg ha, bd_e (tp_isDig h (by omega))]
        by_cases hd : isDig (B (p + r)) = true
        · rw [if_pos hd, nI_1, ih (r + 1) (by omega) (by omega)]
          simp only [hd, Bool.or_true, if_true]
          rw [show p + (r + 1) = p + r + 1 by omega, show r + 1 + alRun B (len - (r + 1)) (p + r + 1) = r + (alRun B (len - (r + 1)) (p + r + 1) + 1) by omega]
        · rw [if_neg hd]
          simp [ha, hd]
theorem tp_nameLength {G : GG} {m : MM} {t len : Nat} {B : Nat → Int32} (h : TP G m t len B) {p : Nat} (hp : p < 1000000000) : M_X8_nameLength G t (nI p) m = some (nI (nl B p), m) := by
  have hT := h.tx
  have h4 := hT.1
  unfold M_X8_nameLength
  rw [show (0 : Int32) = nI 0 from nI_0.symm, tp_nameLoop h hp FU 0 (by unfold FU; omega) (by omega)]
  rw [show 0 + alRun B (len - 0) (p + 0) = nl B p by rw [Nat.zero_add, Nat.add_zero, Nat.sub_zero, nl, alRun_stab hT len p (by omega), alRun_stab hT 2001 p (by omega)]]
theorem tp_numLoop {G : GG} {m : MM} {t len : Nat} {B : Nat → Int32} (h : TP G m t len B) {p : Nat} (hp : p < 1000000000) : ∀ (fu r : Nat), 9 - r < fu → r ≤ 9 → B_X8_numberLength_2 G fu t (nI p) (nI r) m = some (nI (r + dgRun B (9 - r) (p + r)), m) := by
  intro fu
  induction fu with
  | zero => intro r hr; exact absurd hr (by omega)
  | succ fu ih =>
    intro r hr hrl
    rw [B_X8_numberLength_2, show (9 : Int32) = nI 9 from rfl]
    by_cases hl : 9 ≤ r
    · rw [if_pos ((nI_leI (by omega) (by omega)).mpr hl), show 9 - r = 0 by omega]
      rfl
    · rw [if_neg (fun q => hl ((nI_leI (by omega) (by omega)).mp q)), nI_add, bd_e (tp_isDig h (by omega)), show 9 - r = (9 - (r + 1)) + 1 by omega]
      simp only [dgRun]
      by_cases hd : isDig (B (p + r)) = true
      · rw [if_pos hd, nI_1, ih (r + 1) (by omega) (by omega), if_pos hd, show p + (r + 1) = p + r + 1 by omega, show r + 1 + dgRun B (9 - (r + 1)) (p + r + 1) = r + (dgRun B (9 - (r + 1)) (p + r + 1) + 1) by omega]
      · rw [if_neg hd, if_neg hd]
        rfl
theorem tp_numberLength {G : GG} {m : MM} {t len : Nat} {B : Nat → Int32} (h : TP G m t len B) {p : Nat} (hp : p < 1000000000) : M_X8_numberLength G t (nI p) m = some (nI (dgRun B 9 p), m) := by
  unfold M_X8_numberLength
  rw [show (0 : Int32) = nI 0 from nI_0.symm, tp_numLoop h hp FU 0 (by unfold FU; omega) (by omega)]
  rw [Nat.zero_add, Nat.add_zero]
theorem dgRun_le (B : Nat → Int32) : ∀ f p, dgRun B f p ≤ f := by
  intro f
  induction f with
  | zero => intro p; simp [dgRun]
  | succ f ih =>
    intro p
    simp only [dgRun]
    split
    · have := ih (p + 1); omega
    · omega
theorem tp_valLoop {G : GG} {m : MM} {t len : Nat} {B : Nat → Int32} (h : TP G m t len B) {p d : Nat} (hp : p < 1000000000) (hd : d ≤ 9) : ∀ (fu k : Nat) (v : Int32), d - k < fu → k ≤ d → B_X8_numberAt_11 G fu t (nI p) (nI d) v (nI k) m = some (dgVal B (d - k) (p + k) v, m) := by
  intro fu
  induction fu with
  | zero => intro r v hr; exact absurd hr (by omega)
  | succ fu ih =>
    intro k v hr hk
    rw [B_X8_numberAt_11]
    by_cases hl : d ≤ k
    · rw [if_pos ((nI_leI (by omega) (by omega)).mpr hl), show d - k = 0 by omega]
      rfl
    · rw [if_neg (fun q => hl ((nI_leI (by omega) (by omega)).mp q)), nI_add, bd_e (tp_byteAt h (by omega)), nI_1, ih (k + 1) _ (by omega) (by omega), show d - k = (d - (k + 1)) + 1 by omega]
      rfl
theorem tp_numberAt {G : GG} {m : MM} {t len : Nat} {B : Nat → Int32} (h : TP G m t len B) {p : Nat} (hp : p < 1000000000) : M_X8_numberAt G t (nI p) m = some (dgVal B (dgRun B 9 p) p 0, m) := by
  unfold M_X8_numberAt
  have hd := dgRun_le B 9 p
  rw [bd_e (tp_numberLength h hp)]
  have e := tp_valLoop h hp hd FU 0 0 (by unfold FU; omega) (by omega)
  rw [nI_0] at e
  rw [e, Nat.sub_zero, Nat.add_zero]
theorem tp_sameLoop {G : GG} {m : MM} {t len t' len' : Nat} {B B' : Nat → Int32} (h : TP G m t len B) (h' : TP G m t' len' B') {p q n : Nat} (hp : p < 1000000000) (hq : q < 1000000000) (hn : n ≤ 100000) : ∀ (fu k : Nat), n - k < fu → k ≤ n → B_X8_same_3 G fu t (nI p) t' (nI q) (nI n) (nI k) m = some (sm B B' (p + k) (q + k) (n - k), m) := by
  intro fu
  induction fu with
  | zero => intro r hr; exact absurd hr (by omega)
  | succ fu ih =>
    intro k hr hk
    rw [B_X8_same_3]
    by_cases hl : n ≤ k
    · rw [if_pos ((nI_leI (by omega) (by omega)).mpr hl), show n - k = 0 by omega]
      simp [sm]
    · rw [if_neg (fun z => hl ((nI_leI (by omega) (by omega)).mp z)), nI_add, nI_add, bd_e (tp_byteAt h (by omega)), bd_e (tp_byteAt h' (by omega)), show n - k = (n - (k + 1)) + 1 by omega]
      simp only [sm]
      by_cases he : B (p + k) = B' (q + k)
      · rw [if_pos he, if_pos he, nI_1, ih (k + 1) (by omega) (by omega)]
        rfl
      · rw [if_neg he, if_neg he]
theorem tp_same {G : GG} {m : MM} {t len t' len' : Nat} {B B' : Nat → Int32} (h : TP G m t len B) (h' : TP G m t' len' B') {p q n : Nat} (hp : p < 1000000000) (hq : q < 1000000000) (hn : n ≤ 100000) : M_X8_same G t (nI p) t' (nI q) (nI n) m = some (sm B B' p q n, m) := by
  unfold M_X8_same
  rw [show (0 : Int32) = nI 0 from nI_0.symm, tp_sameLoop h h' hp hq hn FU 0 (by unfold FU; omega) (by omega)]
  rfl
/-- the first of the names (by their places) that reads like the one at p, from k on -/
def fstN (B : Nat → Int32) (p : Nat) (nm : Nat → Nat) : Nat → Nat → Option Nat
  | 0, _ => none
  | f + 1, k => if nmEq B p (nm k) = true then some k else fstN B p nm f (k + 1)
def oI (x : Option Nat) : Int32 := match x with
  | none => -1
  | some k => nI k
theorem tp_firstLoop {G : GG} {m : MM} {t len ar many : Nat} {B : Nat → Int32} {nm : Nat → Nat} (h : TP G m t len B) {p : Nat} (hp : p < 1000000000) (hm : many ≤ G.2.2 ar) (har : G.2.2 ar < 1000) (hnm : ∀ k, k < many → gI m ar k = nI (nm k) ∧ nm k < 1000000000) : ∀ (fu k : Nat), many - k < fu → k ≤ many → B_X8_firstNamed_10 G fu t (nI p) ar (nI many) (nI (nl B p)) (nI k) m = some (oI (fstN B p nm (many - k) k), m) := by
  have hT := h.tx
  have h4 := hT.1
  have hnl := nl_le hT p
  intro fu
  induction fu with
  | zero => intro r hr; exact absurd hr (by omega)
  | succ fu ih =>
    intro k hr hk
    rw [B_X8_firstNamed_10]
    by_cases hl : many ≤ k
    · rw [if_pos ((nI_leI (by omega) (by omega)).mpr hl), show many - k = 0 by omega]
      rfl
    · obtain ⟨e1, e2⟩ := hnm k (by omega)
      rw [if_neg (fun z => hl ((nI_leI (by omega) (by omega)).mp z)), if_neg (fun z => absurd ((nI_leI (by omega) (by omega)).mp z) (by omega)), ib_n (by omega) (by omega), nI_clamp (by omega), e1, bd_e (tp_same h h hp e2 (by omega)), show many - k = (many - (k + 1)) + 1 by omega]
      have hnk := nl_le hT (nm k)
      simp only [fstN, nmEq]
      by_cases hs : sm B B p (nm k) (nl B p) = true
      · rw [if_pos hs, ib_n (by omega) (by omega), e1, bd_e (tp_nameLength h e2)]
        by_cases hq : nl B (nm k) = nl B p
        · rw [if_pos (by rw [hq])]
          simp [hs, hq, oI]
        · rw [if_neg (fun z => hq ((nI_eq (by omega) (by omega)).mp z)), nI_1, ih (k + 1) (by omega) (by omega)]
          simp [hs, hq]
      · rw [if_neg hs, nI_1, ih (k + 1) (by omega) (by omega)]
        simp [hs]
theorem tp_firstNamed {G : GG} {m : MM} {t len ar many : Nat} {B : Nat → Int32} {nm : Nat → Nat} (h : TP G m t len B) {p : Nat} (hp : p < 1000000000) (hm : many ≤ G.2.2 ar) (har : G.2.2 ar < 1000) (hnm : ∀ k, k < many → gI m ar k = nI (nm k) ∧ nm k < 1000000000) : M_X8_firstNamed G t (nI p) ar (nI many) m = some (oI (fstN B p nm many 0), m) := by
  unfold M_X8_firstNamed
  rw [bd_e (tp_nameLength h hp), show (0 : Int32) = nI 0 from nI_0.symm, tp_firstLoop h hp hm har hnm FU 0 (by unfold FU; omega) (by omega)]
  rfl
