/-! ===== L2: the text as tokens; the class's rows of tokens ===== -/
def dgN (B : Nat → Int32) : Nat → Nat → Nat → Nat
  | 0, _, a => a
  | k + 1, p, a => dgN B k (p + 1) (a * 10 + ((B p).toNatClampNeg - 48))
theorem isDig_nat {x : Int32} (h : isDig x = true) : ∃ d, d < 10 ∧ x = nI (48 + d) := by
  simp only [isDig, Bool.and_eq_true, decide_eq_true_eq] at h
  have h0 : ¬ x < 0 := by
    simp only [Int32.lt_iff_toInt_lt, Int32.le_iff_toInt_le] at *
    simp at *
    omega
  obtain ⟨j, hj, rfl⟩ := nI_of h0
  rw [show (48 : Int32) = nI 48 from rfl, show (57 : Int32) = nI 57 from rfl, nI_leI (by omega) hj, nI_leI hj (by omega)] at h
  exact ⟨j - 48, by omega, by rw [show 48 + (j - 48) = j by omega]⟩
theorem dgVal_N {B : Nat → Int32} : ∀ (f k p a : Nat), k ≤ dgRun B f p → dgVal B k p (nI a) = nI (dgN B k p a) := by
  intro f
  induction f with
  | zero =>
    intro k p a hk
    simp only [dgRun] at hk
    rw [show k = 0 by omega]
    rfl
  | succ f ih =>
    intro k p a hk
    cases k with
    | zero => rfl
    | succ k =>
      simp only [dgRun] at hk
      split at hk
      · rename_i q
        obtain ⟨d, hd, e⟩ := isDig_nat q
        simp only [dgVal, dgN]
        rw [e, nI_clamp (by omega), show (48 : Int32) = nI 48 from rfl, pk_sub (by omega), show (10 : Int32) = nI 10 from rfl, pk_mul, nI_add]
        exact ih k (p + 1) _ (by omega)
      · omega
theorem dgN_lt {B : Nat → Int32} : ∀ (f k p a j : Nat), k ≤ dgRun B f p → a < 10 ^ j → dgN B k p a < 10 ^ (j + k) := by
  intro f
  induction f with
  | zero =>
    intro k p a j hk ha
    simp only [dgRun] at hk
    rw [show k = 0 by omega]
    exact ha
  | succ f ih =>
    intro k p a j hk ha
    cases k with
    | zero => exact ha
    | succ k =>
      simp only [dgRun] at hk
      split at hk
      · rename_i q
        obtain ⟨d, hd, e⟩ := isDig_nat q
        simp only [dgN]
        rw [e, nI_clamp (by omega), show j + (k + 1) = (j + 1) + k by omega]
        refine ih k (p + 1) _ (j + 1) (by omega) ?_
        rw [Nat.pow_succ]
        omega
      · omega
def tkK (B : Nat → Int32) (p : Nat) : Nat := if isLet (B p) = true then (if nl B p ≤ 12 then wk B p (nl B p) else 131) else if isDig (B p) = true then 129 else if isSg (B p) = true then (B p).toNatClampNeg else 131
def tkL (B : Nat → Int32) (p : Nat) : Nat := if isLet (B p) = true then nl B p else if isDig (B p) = true then dgRun B 9 p else 1
def tkV (B : Nat → Int32) (p : Nat) : Nat := if isLet (B p) = true then 0 else if isDig (B p) = true then dgN B (dgRun B 9 p) p 0 else 0
/-- a token: its kind, its place, its number -/
abbrev Tok : Type := Nat × Nat × Nat
/-- the tokens from a place on, the end among them -/
def toks (B : Nat → Int32) (len : Nat) : Nat → Nat → List Tok
  | 0, _ => [(130, len, 0)]
  | f + 1, p => if len ≤ p then [(130, len, 0)] else if isBl (B p) = true then toks B len f (p + 1) else (tkK B p, p, tkV B p) :: toks B len f (p + tkL B p)
theorem isLet_al {x : Int32} (h : isLet x = true) : isAl x = true := by simp [isAl, h]
theorem nl_pos {B : Nat → Int32} {p : Nat} (h : isLet (B p) = true) : 0 < nl B p := by
  have h1 : ∀ f, 0 < alRun B (f + 1) p := fun f => by
    rw [alRun, if_pos (isLet_al h)]
    omega
  exact h1 2000
theorem tkL_pos {B : Nat → Int32} {p : Nat} : 0 < tkL B p := by
  unfold tkL
  split
  · rename_i h; exact nl_pos h
  · split
    · rename_i h
      have h1 : ∀ f, 0 < dgRun B (f + 1) p := fun f => by
        rw [dgRun, if_pos h]
        omega
      exact h1 8
    · omega
theorem dgRun_len {B : Nat → Int32} {len : Nat} (h : Tx B len) : ∀ f p, dgRun B f p ≤ len - p := by
  intro f
  induction f with
  | zero => intro p; simp [dgRun]
  | succ f ih =>
    intro p
    simp only [dgRun]
    split
    · rename_i q
      have h1 : isAl (B p) = true := by simp [isAl, q]
      have := h.lt h1
      have := ih (p + 1)
      omega
    · omega
theorem tkL_le {B : Nat → Int32} {len p : Nat} (h : Tx B len) (hp : p < len) : p + tkL B p ≤ len := by
  unfold tkL
  split
  · have := nl_le h p; omega
  · split
    · have := dgRun_len h 9 p; omega
    · omega
theorem wk_lt (B : Nat → Int32) (p r : Nat) : 128 ≤ wk B p r ∧ wk B p r ≤ 140 := by
  unfold wk
  repeat' split
  all_goals omega
theorem isSg_nat : ∀ v, v < 256 → isSg (nI v) = true → v < 128 := by decide +kernel
theorem tkV_lt (B : Nat → Int32) (p : Nat) : tkV B p < 1000000000 := by
  unfold tkV
  split
  · omega
  · split
    · have h1 := dgN_lt (B := B) 9 (dgRun B 9 p) p 0 0 (Nat.le_refl _) (by decide)
      have h2 := dgRun_le B 9 p
      have h3 : 10 ^ (0 + dgRun B 9 p) ≤ 10 ^ 9 := Nat.pow_le_pow_right (by decide) (by omega)
      exact Nat.lt_of_lt_of_le h1 (Nat.le_trans h3 (by decide))
    · omega
theorem TP.byte {G : GG} {m : MM} {t len : Nat} {B : Nat → Int32} (h : TP G m t len B) {i : Nat} (hi : i < len) : ∃ v, v < 256 ∧ B i = nI v := by
  obtain ⟨j, hj, e⟩ := pk_andE (gI m (t + 1) i) (m := 255) 8 (by decide)
  exact ⟨j, hj, by rw [← h.2.2.2.2.1 i hi]; exact e⟩
/-- every byte of a text is one -/
def By (B : Nat → Int32) (len : Nat) : Prop := ∀ i, i < len → ∃ v, v < 256 ∧ B i = nI v
theorem tkK_lt {B : Nat → Int32} {len p : Nat} (hb : By B len) (hp : p < len) : tkK B p < 256 := by
  obtain ⟨v, hv, e⟩ := hb p hp
  unfold tkK
  repeat' split
  · have := wk_lt B p (nl B p); omega
  · omega
  · omega
  · rw [e, nI_clamp (by omega)]; omega
  · omega
/-- what a token is as a row -/
def enc (t : Tok) : Int64 := lN ((t.2.2 * 4096 + t.2.1) * 256 + t.1)
/-- the class's rows of tokens -/
def RW (G : GG) (m : MM) (tk : Nat) (L : List Tok) : Prop := gR m tk 0 = some (tk + 1) ∧ G.2.2 (tk + 1) = 2001 ∧ gI m tk 1 = nI L.length ∧ L.length ≤ 2001 ∧ ∀ j t, L[j]? = some t → gL m (tk + 1) j = enc t
theorem rw_add {G : GG} {m : MM} {tk k p v : Nat} {L : List Tok} (h : RW G m tk L) (hl : L.length < 2001) (hk : k < 2 ^ 31) (hp : p < 2 ^ 31) (hv : v < 2 ^ 31) : ∃ m1, M_X9_add G tk (nI k) (nI p) (nI v) m = some ((), m1) ∧ RW G m1 tk (L ++ [(k, p, v)]) ∧ Off m m1 [tk, tk + 1] ∧ (∀ j, j ≠ 1 → gI m1 tk j = gI m tk j) := by
  obtain ⟨h1, h2, h3, h4, h5⟩ := h
  unfold M_X9_add
  rw [nb_e h1, h2, h3, if_neg (fun z => absurd ((nI_leI (by omega) (by omega)).mp z) (by omega)), ib_n hl (by omega), nI_clamp (by omega), gI_sL, h3, nI_1]
  have e : ((((nI v).toInt64 * 4096) + (nI p).toInt64) * 256) + (nI k).toInt64 = enc (k, p, v) := by
    rw [nI_l hv, nI_l hp, nI_l hk, show (4096 : Int64) = lN 4096 from rfl, show (256 : Int64) = lN 256 from rfl, lN_mul, lN_add, lN_mul, lN_add]
    rfl
  rw [e]
  refine ⟨_, rfl, ⟨h1, h2, by rw [gI_sI_eq, List.length_append]; rfl, by rw [List.length_append]; exact hl, fun j t hj => ?_⟩, ?_, fun j hj => by rw [gI_sI_ne (Or.inr hj), gI_sL]⟩
  · rw [gL_sI, gL_sL]
    by_cases hjl : j < L.length
    · rw [List.getElem?_append_left hjl] at hj
      rw [if_neg (by omega)]
      exact h5 j t hj
    · rw [List.getElem?_append_right (by omega)] at hj
      have hz : j - L.length < 1 := (List.getElem?_eq_some_iff.mp hj).1
      have hz2 : j = L.length := by omega
      subst hz2
      rw [Nat.sub_self] at hj
      cases hj
      rw [if_pos ⟨rfl, rfl⟩]
  · exact (Off.sL.tr Off.sI).mono (by simp)
theorem toks_eq {B : Nat → Int32} {len : Nat} : ∀ f g p, len - p ≤ f → len - p ≤ g → toks B len f p = toks B len g p := by
  intro f
  induction f with
  | zero =>
    intro g p h1 h2
    cases g with
    | zero => rfl
    | succ g => rw [toks, toks, if_pos (by omega)]
  | succ f ih =>
    intro g p h1 h2
    cases g with
    | zero => rw [toks, toks, if_pos (by omega)]
    | succ g =>
      have hL := tkL_pos (B := B) (p := p)
      rw [toks, toks]
      by_cases hl : len ≤ p
      · rw [if_pos hl, if_pos hl]
      · rw [if_neg hl, if_neg hl, ih g (p + 1) (by omega) (by omega), ih g (p + tkL B p) (by omega) (by omega)]
/-- the tokens of a text from a place on -/
def tks (B : Nat → Int32) (len p : Nat) : List Tok := toks B len (len - p) p
theorem tks_end {B : Nat → Int32} {len p : Nat} (h : len ≤ p) : tks B len p = [(130, len, 0)] := by
  unfold tks
  rw [show len - p = 0 by omega, toks]
theorem tks_bl {B : Nat → Int32} {len p : Nat} (h : p < len) (hb : isBl (B p) = true) : tks B len p = tks B len (p + 1) := by
  unfold tks
  rw [toks_eq (len - p) ((len - (p + 1)) + 1) p (by omega) (by omega), toks, if_neg (by omega), if_pos hb]
theorem tks_tok {B : Nat → Int32} {len p : Nat} (h : p < len) (hb : ¬ isBl (B p) = true) : tks B len p = (tkK B p, p, tkV B p) :: tks B len (p + tkL B p) := by
  have hL := tkL_pos (B := B) (p := p)
  unfold tks
  rw [toks_eq (len - p) ((len - (p + 1)) + 1) p (by omega) (by omega), toks, if_neg (by omega), if_neg hb, toks_eq (len - (p + 1)) (len - (p + tkL B p)) _ (by omega) (by omega)]
theorem tks_len {B : Nat → Int32} {len : Nat} (hT : Tx B len) : ∀ n p, len - p = n → (tks B len p).length ≤ n + 1 := by
  intro n
  induction n using Nat.strongRecOn with
  | ind n ih =>
    intro p hn
    by_cases hl : len ≤ p
    · rw [tks_end hl]
      simp
    · by_cases hb : isBl (B p) = true
      · rw [tks_bl (by omega) hb]
        have := ih (n - 1) (by omega) (p + 1) (by omega)
        omega
      · have hL := tkL_pos (B := B) (p := p)
        have hL2 := tkL_le hT (show p < len by omega)
        rw [tks_tok (by omega) hb, List.length_cons]
        have := ih (len - (p + tkL B p)) (by omega) (p + tkL B p) rfl
        omega
/-- one step of the class's splitting: a blank is passed, a token is told -/
theorem rw_addAt {G : GG} {m : MM} {tk t len p : Nat} {B : Nat → Int32} {L : List Tok} (h : RW G m tk L) (hl : L.length < 2001) (hT : TP G m t len B) (h1 : t ≠ tk) (h2 : t ≠ tk + 1) (h3 : t + 1 ≠ tk) (hp : p < len) :
    ∃ (r : Nat) (m1 : MM) (L1 : List Tok), M_X9_addAt G tk t (nI p) m = some (nI r, m1) ∧ RW G m1 tk L1 ∧ Off m m1 [tk, tk + 1] ∧ (∀ j, j ≠ 1 → gI m1 tk j = gI m tk j) ∧ 0 < r ∧ p + r ≤ len ∧ L1 ++ tks B len (p + r) = L ++ tks B len p ∧ L1.length ≤ L.length + 1 := by
  have hX := hT.tx
  have hle := hX.1
  obtain ⟨v, hv, ev⟩ := hT.byte hp
  unfold M_X9_addAt
  rw [bd_e (tp_byteAt hT (by omega))]
  by_cases q1 : B p = 32
  · rw [if_pos q1]
    refine ⟨1, m, L, rfl, h, Off.rf, fun _ _ => rfl, by omega, by omega, ?_, by omega⟩
    rw [tks_bl hp (by simp [isBl, q1])]
  rw [if_neg q1]
  by_cases q2 : B p = 10
  · rw [if_pos q2]
    refine ⟨1, m, L, rfl, h, Off.rf, fun _ _ => rfl, by omega, by omega, ?_, by omega⟩
    rw [tks_bl hp (by simp [isBl, q2])]
  have hbl : ¬ isBl (B p) = true := by simp [isBl, q1, q2]
  have hL := tkL_pos (B := B) (p := p)
  have hL2 := tkL_le hX hp
  rw [if_neg q2, bd_e (tp_isLet hT (by omega))]
  have fin : ∀ (k w : Nat), k < 2 ^ 31 → w < 2 ^ 31 → tkK B p = k → tkV B p = w → ∃ m1, M_X9_add G tk (nI k) (nI p) (nI w) m = some ((), m1) ∧ RW G m1 tk (L ++ [(tkK B p, p, tkV B p)]) ∧ Off m m1 [tk, tk + 1] ∧ (∀ j, j ≠ 1 → gI m1 tk j = gI m tk j) := by
    intro k w hk hw e1 e2
    rw [e1, e2]
    exact rw_add h hl hk (by omega) hw
  have wrap : ∀ (m1 : MM), RW G m1 tk (L ++ [(tkK B p, p, tkV B p)]) → (L ++ [(tkK B p, p, tkV B p)]) ++ tks B len (p + tkL B p) = L ++ tks B len p := by
    intro m1 _
    rw [tks_tok hp hbl, List.append_assoc]
    rfl
  by_cases hlt : isLet (B p) = true
  · have hnl := nl_le hX p
    have eL : tkL B p = nl B p := by simp [tkL, hlt]
    have eV : tkV B p = 0 := by simp [tkV, hlt]
    rw [if_pos hlt, bd_e (tp_nameLength hT (by omega)), show (12 : Int32) = nI 12 from rfl]
    by_cases h12 : nl B p ≤ 12
    · have hw := wk_lt B p (nl B p)
      obtain ⟨m1, e1, e2, e3, e4⟩ := fin (wk B p (nl B p)) 0 (by omega) (by omega) (by simp [tkK, hlt, h12]) eV
      rw [if_pos ((nI_leI (by omega) (by omega)).mpr h12), bd_e (tp_word hT (by omega) (by omega)), show (0 : Int32) = nI 0 from nI_0.symm, bd_e e1]
      exact ⟨nl B p, m1, _, rfl, e2, e3, e4, by omega, by omega, by rw [← eL]; exact wrap m1 e2, by simp⟩
    · obtain ⟨m1, e1, e2, e3, e4⟩ := fin 131 0 (by omega) (by omega) (by simp [tkK, hlt, h12]) eV
      rw [if_neg (fun z => h12 ((nI_leI (by omega) (by omega)).mp z)), show (131 : Int32) = nI 131 from rfl, show (0 : Int32) = nI 0 from nI_0.symm, bd_e e1]
      exact ⟨nl B p, m1, _, rfl, e2, e3, e4, by omega, by omega, by rw [← eL]; exact wrap m1 e2, by simp⟩
  rw [if_neg hlt, bd_e (tp_isDig hT (by omega))]
  by_cases hdg : isDig (B p) = true
  · have eL : tkL B p = dgRun B 9 p := by simp [tkL, hlt, hdg]
    have eV : tkV B p = dgN B (dgRun B 9 p) p 0 := by simp [tkV, hlt, hdg]
    have hVl := tkV_lt B p
    obtain ⟨m1, e1, e2, e3, e4⟩ := fin 129 (tkV B p) (by omega) (by omega) (by simp [tkK, hlt, hdg]) rfl
    have hN := dgVal_N (B := B) 9 (dgRun B 9 p) p 0 (Nat.le_refl _)
    rw [nI_0] at hN
    rw [if_pos hdg, bd_e (tp_numberAt hT (by omega)), hN, ← eV, show (129 : Int32) = nI 129 from rfl, bd_e e1]
    have hT1 : TP G m1 t len B := hT.kept e3 (by simp [h1, h2]) (by simp [h3, h1])
    rw [bd_e (tp_numberLength hT1 (by omega))]
    exact ⟨dgRun B 9 p, m1, _, rfl, e2, e3, e4, by omega, by omega, by rw [← eL]; exact wrap m1 e2, by simp⟩
  have eL : tkL B p = 1 := by simp [tkL, hlt, hdg]
  have eV : tkV B p = 0 := by simp [tkV, hlt, hdg]
  rw [if_neg hdg, if_neg (by rw [ev]; exact nI_pos (by omega)), ev]
  obtain ⟨r, er1, er2⟩ := ix_sg (G := G) (m := m) hv
  rw [bd_e er1]
  by_cases hsg : isSg (nI v) = false
  · obtain ⟨m1, e1, e2, e3, e4⟩ := fin 131 0 (by omega) (by omega) (by unfold tkK; rw [if_neg hlt, if_neg hdg, ev, if_neg (by rw [hsg]; decide)]) eV
    rw [if_pos (er2.mpr hsg), show (131 : Int32) = nI 131 from rfl, show (0 : Int32) = nI 0 from nI_0.symm, bd_e e1]
    exact ⟨1, m1, _, rfl, e2, e3, e4, by omega, by omega, by rw [← eL]; exact wrap m1 e2, by simp⟩
  · have hsg2 : isSg (nI v) = true := by simpa using hsg
    obtain ⟨m1, e1, e2, e3, e4⟩ := fin v 0 (by omega) (by omega) (by unfold tkK; rw [if_neg hlt, if_neg hdg, ev, if_pos hsg2]; exact nI_clamp (by omega)) eV
    rw [if_neg (fun z => hsg (er2.mp z)), show (0 : Int32) = nI 0 from nI_0.symm, bd_e e1]
    exact ⟨1, m1, _, rfl, e2, e3, e4, by omega, by omega, by rw [← eL]; exact wrap m1 e2, by simp⟩
/-- the tokens' object: its rows, which one is to be read, what that one is -/
def TK (G : GG) (m : MM) (tk : Nat) (L : List Tok) (k : Nat) : Prop := RW G m tk L ∧ gI m tk 2 = nI k ∧ (∀ t ∈ L, t.1 < 256 ∧ t.2.1 < 4096 ∧ t.2.2 < 1000000000) ∧ ∃ c, L[k]? = some c ∧ gI m tk 3 = nI c.1 ∧ gI m tk 4 = nI c.2.1 ∧ gI m tk 5 = nI c.2.2
set_option maxRecDepth 100000 in
theorem enc_kind {t : Tok} (h1 : t.1 < 256) (h2 : t.2.1 < 4096) (h3 : t.2.2 < 1000000000) : (enc t - enc t / 256 * 256).toInt32 = nI t.1 ∧ (enc t / 256 - enc t / 256 / 4096 * 4096).toInt32 = nI t.2.1 ∧ (enc t / 256 / 4096).toInt32 = nI t.2.2 := by
  unfold enc
  obtain ⟨k, p, v⟩ := t
  simp only at h1 h2 h3 ⊢
  rw [show (256 : Int64) = lN 256 from rfl, show (4096 : Int64) = lN 4096 from rfl, pk_lRem (by omega) (by decide) (by decide), pk_lDiv (by omega) (by decide) (by decide)]
  have e1 : ((v * 4096 + p) * 256 + k) % 256 = k := by omega
  have e2 : ((v * 4096 + p) * 256 + k) / 256 = v * 4096 + p := by omega
  rw [e1, e2, pk_lRem (by omega) (by decide) (by decide), pk_lDiv (by omega) (by decide) (by decide)]
  have e3 : (v * 4096 + p) % 4096 = p := by omega
  have e4 : (v * 4096 + p) / 4096 = v := by omega
  rw [e3, e4, lN_i, lN_i, lN_i]
  exact ⟨rfl, rfl, rfl⟩
theorem rw_next {G : GG} {m : MM} {tk : Nat} {L : List Tok} {k : Nat} (hR : RW G m tk L) (hb : ∀ t ∈ L, t.1 < 256 ∧ t.2.1 < 4096 ∧ t.2.2 < 1000000000) (hn : gI m tk 2 + 1 = nI k) (hk : k < L.length) : ∃ m1, M_X9_advance G tk m = some (true, m1) ∧ TK G m1 tk L k ∧ Off m m1 [tk] ∧ m1.2.2 = m.2.2 := by
  obtain ⟨h1, h2, h3, h4, h5⟩ := hR
  unfold M_X9_advance
  simp only [hn, gI_sI_eq, gR_sI, gL_sI, gI_sI_ne (show tk ≠ tk ∨ 1 ≠ 2 from Or.inr (by decide)), h3]
  have ek : L[k]? = some L[k] := List.getElem?_eq_getElem hk
  obtain ⟨b1, b2, b3⟩ := hb L[k] (List.getElem_mem hk)
  obtain ⟨d1, d2, d3⟩ := enc_kind b1 b2 b3
  rw [if_neg (nI_pos (by omega)), if_neg (fun z => absurd ((nI_leI (by omega) (by omega)).mp z) (by omega)), nb_e h1, h2, if_neg (fun z => absurd ((nI_leI (by omega) (by omega)).mp z) (by omega)), ib_n (by omega) (by omega), nI_clamp (by omega), h5 k _ ek]
  simp only [gL_sI, h5 k _ ek, d1, d2, d3]
  refine ⟨_, rfl, ⟨⟨h1, h2, ?_, h4, fun j t hj => h5 j t hj⟩, ?_, hb, L[k], ek, ?_, ?_, ?_⟩, ?_⟩
  · simp only [gI_sI]; simpa using h3
  · simp [gI_sI]
  · simp [gI_sI]
  · simp [gI_sI]
  · simp [gI_sI]
  · exact ⟨(((Off.sI.tr1 Off.sI).tr1 Off.sI).tr1 Off.sI), rfl⟩
theorem tk_advance {G : GG} {m : MM} {tk : Nat} {L : List Tok} {k : Nat} (h : TK G m tk L k) (hk : k + 1 < L.length) : ∃ m1, M_X9_advance G tk m = some (true, m1) ∧ TK G m1 tk L (k + 1) ∧ Off m m1 [tk] ∧ m1.2.2 = m.2.2 := by
  obtain ⟨hR, h2, hb, -⟩ := h
  exact rw_next hR hb (by rw [h2, nI_1]) hk
theorem tk_cur {G : GG} {m : MM} {tk : Nat} {L : List Tok} {k : Nat} {c : Tok} (h : TK G m tk L k) (hc : L[k]? = some c) : gI m tk 3 = nI c.1 ∧ gI m tk 4 = nI c.2.1 ∧ gI m tk 5 = nI c.2.2 ∧ c.1 < 256 ∧ c.2.1 < 4096 ∧ c.2.2 < 1000000000 := by
  obtain ⟨-, -, hb, c', e, h3, h4, h5⟩ := h
  cases e.symm.trans hc
  obtain ⟨b1, b2, b3⟩ := hb c (List.mem_of_getElem? hc)
  exact ⟨h3, h4, h5, b1, b2, b3⟩
theorem TK.kept {G : GG} {m m1 : MM} {tk : Nat} {L : List Tok} {k : Nat} {l : List Nat} (h : TK G m tk L k) (o : Off m m1 l) (h1 : tk ∉ l) (h2 : tk + 1 ∉ l) : TK G m1 tk L k := by
  obtain ⟨⟨a1, a2, a3, a4, a5⟩, b, c, d, e1, e2, e3, e4⟩ := h
  exact ⟨⟨by rw [o.R h1]; exact a1, a2, by rw [o.I h1]; exact a3, a4, fun j t hj => by rw [o.L h2]; exact a5 j t hj⟩, by rw [o.I h1]; exact b, c, d, e1, by rw [o.I h1]; exact e2, by rw [o.I h1]; exact e3, by rw [o.I h1]; exact e4⟩
theorem tk_take {G : GG} {m : MM} {tk w : Nat} {L : List Tok} {k : Nat} {c : Tok} (h : TK G m tk L k) (hc : L[k]? = some c) (hw : w < 2 ^ 31) : (c.1 = w → k + 1 < L.length → ∃ m1, M_X9_take G tk (nI w) m = some (true, m1) ∧ TK G m1 tk L (k + 1) ∧ Off m m1 [tk] ∧ m1.2.2 = m.2.2) ∧ (c.1 ≠ w → M_X9_take G tk (nI w) m = some (false, m)) := by
  obtain ⟨h3, -, -, b1, -⟩ := tk_cur h hc
  refine ⟨fun e hk => ?_, fun e => ?_⟩
  · obtain ⟨m1, e1, e2, e3⟩ := tk_advance h hk
    refine ⟨m1, ?_, e2, e3⟩
    unfold M_X9_take
    rw [h3, e, if_pos rfl, bd_e e1, if_pos rfl]
  · unfold M_X9_take
    rw [h3, if_neg (fun z => e ((nI_eq (by omega) hw).mp z))]
theorem tks_bd {B : Nat → Int32} {len : Nat} (hT : Tx B len) (hB : By B len) : ∀ n p, len - p = n → ∀ t ∈ tks B len p, t.1 < 256 ∧ t.2.1 < 4096 ∧ t.2.2 < 1000000000 := by
  have hle := hT.1
  intro n
  induction n using Nat.strongRecOn with
  | ind n ih =>
    intro p hn t ht
    by_cases hl : len ≤ p
    · rw [tks_end hl, List.mem_singleton] at ht
      subst ht
      exact ⟨by show 130 < 256; omega, by show len < 4096; omega, by show 0 < 1000000000; omega⟩
    · by_cases hb : isBl (B p) = true
      · rw [tks_bl (by omega) hb] at ht
        exact ih (n - 1) (by omega) (p + 1) (by omega) t ht
      · have hL := tkL_pos (B := B) (p := p)
        have hL2 := tkL_le hT (show p < len by omega)
        rw [tks_tok (by omega) hb, List.mem_cons] at ht
        rcases ht with rfl | ht
        · exact ⟨tkK_lt hB (by omega), by show p < 4096; omega, tkV_lt B p⟩
        · exact ih (len - (p + tkL B p)) (by omega) (p + tkL B p) rfl t ht
theorem sp_end {G : GG} {tk t len : Nat} {B : Nat → Int32} {m : MM} {L : List Tok} (hR : RW G m tk L) (hT : TP G m t len B) (hL : L.length ≤ len) (hb : ∀ t ∈ L ++ tks B len len, t.1 < 256 ∧ t.2.1 < 4096 ∧ t.2.2 < 1000000000) : ∃ m1, B_X9_split_39 G tk t m = some ((), m1) ∧ Off m m1 [tk, tk + 1] ∧ TK G m1 tk (L ++ tks B len len) 0 := by
  have hle := hT.tx.1
  rw [tks_end (Nat.le_refl len)] at hb ⊢
  unfold B_X9_split_39
  obtain ⟨m1, e1, e2, e3, e4⟩ := rw_add hR (k := 130) (p := len) (v := 0) (by omega) (by omega) (by omega) (by omega)
  rw [hT.2.2.1, show (130 : Int32) = nI 130 from rfl, show (0 : Int32) = nI 0 from nI_0.symm, bd_e e1]
  have hR2 : RW G (sI m1 tk 2 (-1)) tk (L ++ [(130, len, 0)]) := by
    obtain ⟨a1, a2, a3, a4, a5⟩ := e2
    exact ⟨a1, a2, by rw [gI_sI_ne (Or.inr (by decide))]; exact a3, a4, a5⟩
  obtain ⟨m2, f1, f2, f3, -⟩ := rw_next hR2 hb (k := 0) (by rw [gI_sI_eq]; decide) (by simp)
  rw [bd_e f1]
  exact ⟨m2, rfl, ((e3.tr Off.sI).tr f3).mono (by simp), f2⟩
/-- the class's splitting of a text -/
theorem sp_split {G : GG} {tk t len : Nat} {B : Nat → Int32} (h1 : t ≠ tk) (h2 : t ≠ tk + 1) (h3 : t + 1 ≠ tk) : ∀ (fu p k : Nat) (m : MM) (L : List Tok), RW G m tk L → TP G m t len B → p ≤ len → k ≤ p → L.length ≤ p → len - p < fu → (∀ t ∈ L ++ tks B len p, t.1 < 256 ∧ t.2.1 < 4096 ∧ t.2.2 < 1000000000) → ∃ m1, B_X9_split_9 G fu tk t (nI p) (nI k) m = some ((), m1) ∧ Off m m1 [tk, tk + 1] ∧ TK G m1 tk (L ++ tks B len p) 0 := by
  intro fu
  induction fu with
  | zero => intro p k m L _ _ _ _ _ hf; exact absurd hf (by omega)
  | succ fu ih =>
    intro p k m L hR hT hp hk hLp hf hb
    have hle := hT.tx.1
    have hlen := hT.2.2.1
    rw [B_X9_split_9, hlen, show (2000 : Int32) = nI 2000 from rfl]
    by_cases hl : len ≤ p
    · have e : p = len := by omega
      subst e
      obtain ⟨m1, e1, e2, e3⟩ := sp_end hR hT hLp hb
      refine ⟨m1, ?_, e2, e3⟩
      by_cases hk2 : 2000 ≤ k
      · rw [if_pos ((nI_leI (by omega) (by omega)).mpr hk2), e1]
      · rw [if_neg (fun z => hk2 ((nI_leI (by omega) (by omega)).mp z)), if_pos ((nI_leI (by omega) (by omega)).mpr hl), e1]
    · obtain ⟨r, m1, L1, e1, e2, e3, e4, e5, e6, e7, e8⟩ := rw_addAt hR (by omega) hT h1 h2 h3 (show p < len by omega)
      rw [if_neg (fun z => absurd ((nI_leI (by omega) (by omega)).mp z) (by omega)), if_neg (fun z => hl ((nI_leI (by omega) (by omega)).mp z)), bd_e e1, nI_add, nI_1]
      obtain ⟨m2, f1, f2, f3⟩ := ih (p + r) (k + 1) m1 L1 e2 (hT.kept e3 (by simp [h1, h2]) (by simp [h3, h1])) e6 (by omega) (by omega) (by omega) (by rw [e7]; exact hb)
      exact ⟨m2, f1, e3.tr1 f2, by rw [← e7]; exact f3⟩
theorem tk_split {G : GG} {m : MM} {tk t len : Nat} {B : Nat → Int32} (hr : gR m tk 0 = some (tk + 1)) (hg : G.2.2 (tk + 1) = 2001) (hT : TP G m t len B) (h1 : t ≠ tk) (h2 : t ≠ tk + 1) (h3 : t + 1 ≠ tk) : ∃ m1, M_X9_split G tk t m = some ((), m1) ∧ Off m m1 [tk, tk + 1] ∧ TK G m1 tk (tks B len 0) 0 := by
  have hle := hT.tx.1
  unfold M_X9_split
  have hR : RW G (sI m tk 1 0) tk [] := ⟨hr, hg, by rw [gI_sI_eq]; rfl, by simp, fun j t hj => by simp at hj⟩
  have o : Off m (sI m tk 1 0) [tk] := Off.sI
  obtain ⟨m1, e1, e2, e3⟩ := sp_split h1 h2 h3 FU 0 0 (sI m tk 1 0) [] hR (hT.kept o (by simp [h1]) (by simp [h3])) (by omega) (by omega) (by simp) (by unfold FU; omega) (fun t ht => tks_bd hT.tx (fun i hi => hT.byte hi) len 0 (by omega) t ht)
  rw [nI_0] at e1
  exact ⟨m1, e1, (o.tr e2).mono (by simp), e3⟩
