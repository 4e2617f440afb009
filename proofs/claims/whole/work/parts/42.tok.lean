/-! ===== L2: the class's tokens ===== -/
def isBl (x : Int32) : Bool := decide (x = 32) || decide (x = 10)
def spl (B : Nat → Int32) : Nat → List Int32 → Bool
  | _, [] => true
  | p, x :: l => if B p = x then spl B (p + 1) l else false
def wd (B : Nat → Int32) (p r i : Nat) : Bool := decide (r = lenS.getD i 0) && spl B p (bytS.getD i [])
def wk (B : Nat → Int32) (p r : Nat) : Nat := if wd B p r 0 = true then 132 else if wd B p r 1 = true then 133 else if wd B p r 2 = true then 134 else if wd B p r 3 = true then 135 else if wd B p r 4 = true then 136 else if wd B p r 5 = true then 137 else if wd B p r 6 = true then 138 else if wd B p r 7 = true then 139 else if wd B p r 8 = true then 140 else 128
def isSg (x : Int32) : Bool := (bytS.getD 9 []).any (fun b => decide (b = x))
theorem st_len {G : GG} {m : MM} {w : Nat} (hw : w < 10) : M_J0_length_8abf5 G w m = some (nI (lenS.getD w 0), m) := by
  unfold M_J0_length_8abf5 M_J0_coder_7d493
  rw [bd_e rfl, sb_shr0]
theorem st_all : ∀ w, w < 10 → (bytS.getD w []).length = lenS.getD w 0 ∧ lenS.getD w 0 ≤ 12 ∧ ∀ b ∈ bytS.getD w [], ch (b &&& 255) = b := by decide +kernel
theorem getD_mem {l : List Int32} {k : Nat} (h : k < l.length) : l.getD k 0 ∈ l := by
  rw [List.getD_eq_getElem?_getD, List.getElem?_eq_getElem h]
  exact List.getElem_mem _
theorem st_chr {G : GG} {m : MM} {w k : Nat} (hw : w < 10) (hk : k < lenS.getD w 0) : ∃ r, M_J0_charAt_5068e G w (nI k) m = some (r, m) ∧ ch r = (bytS.getD w []).getD k 0 := by
  obtain ⟨h1, h2, h3⟩ := st_all w hw
  unfold M_J0_charAt_5068e M_J0_isLatin1_aae02
  rw [bd_e rfl, if_pos rfl]
  unfold M_J1_charAt_3b067 M_J0_checkIndex_df160 M_J3_checkIndex_8e157
  rw [if_neg (nI_pos (by omega)), if_pos ((nI_ltI (by omega) (by omega)).mpr hk), bd_e rfl, bd_e rfl, ib_n hk (by omega), bd_e rfl, nI_clamp (by omega)]
  exact ⟨_, rfl, h3 _ (getD_mem (by omega))⟩
theorem spl_drop {B : Nat → Int32} {l : List Int32} {p k : Nat} (hk : k < l.length) : spl B (p + k) (l.drop k) = if B (p + k) = l.getD k 0 then spl B (p + (k + 1)) (l.drop (k + 1)) else false := by
  rw [List.drop_eq_getElem_cons hk]
  simp only [spl]
  rw [List.getD_eq_getElem?_getD, List.getElem?_eq_getElem hk]
  rfl
theorem sp_loop {G : GG} {m : MM} {t len w : Nat} {B : Nat → Int32} (h : TP G m t len B) (hw : w < 10) {p : Nat} (hp : p < 1000000000) : ∀ (fu k : Nat), lenS.getD w 0 - k < fu → k ≤ lenS.getD w 0 → B_X8_spells_13 G fu t (nI p) w (nI k) m = some (spl B (p + k) ((bytS.getD w []).drop k), m) := by
  obtain ⟨h1, h2, h3⟩ := st_all w hw
  intro fu
  induction fu with
  | zero => intro r hr; exact absurd hr (by omega)
  | succ fu ih =>
    intro k hr hk
    rw [B_X8_spells_13, bd_e (st_len hw)]
    by_cases hl : lenS.getD w 0 ≤ k
    · rw [if_pos ((nI_leI (by omega) (by omega)).mpr hl), List.drop_eq_nil_of_le (by omega)]
      rfl
    · obtain ⟨r, e1, e2⟩ := st_chr (G := G) (m := m) hw (show k < lenS.getD w 0 by omega)
      rw [if_neg (fun z => hl ((nI_leI (by omega) (by omega)).mp z)), nI_add, bd_e (tp_byteAt h (by omega)), bd_e e1, e2, spl_drop (by omega)]
      by_cases he : B (p + k) = (bytS.getD w []).getD k 0
      · rw [if_pos he, if_pos he, nI_1, ih (k + 1) (by omega) (by omega)]
      · rw [if_neg he, if_neg he]
theorem tp_spells {G : GG} {m : MM} {t len w r : Nat} {B : Nat → Int32} (h : TP G m t len B) (hw : w < 10) {p : Nat} (hp : p < 1000000000) (hr : r < 1000000000) : M_X8_spells G t (nI p) (nI r) w m = some (wd B p r w, m) := by
  obtain ⟨h1, h2, h3⟩ := st_all w hw
  unfold M_X8_spells
  rw [bd_e (st_len hw)]
  unfold wd
  by_cases he : r = lenS.getD w 0
  · rw [if_pos (by rw [he]), show (0 : Int32) = nI 0 from nI_0.symm, sp_loop h hw hp FU 0 (by unfold FU; omega) (by omega), decide_eq_true he, Bool.true_and]
    rfl
  · rw [if_neg (fun z => he ((nI_eq (by omega) (by omega)).mp z)), decide_eq_false he, Bool.false_and]
theorem tp_word {G : GG} {m : MM} {t len r tk : Nat} {B : Nat → Int32} (h : TP G m t len B) {p : Nat} (hp : p < 1000000000) (hr : r < 1000000000) : M_X9_wordOrName G tk t (nI p) (nI r) m = some (nI (wk B p r), m) := by
  unfold M_X9_wordOrName wk
  have e := fun (w : Nat) (hw : w < 10) => tp_spells (w := w) h hw hp hr
  rw [bd_e (e 0 (by decide))]
  by_cases q0 : wd B p r 0 = true
  · rw [if_pos q0, if_pos q0]; rfl
  rw [if_neg q0, if_neg q0, bd_e (e 1 (by decide))]
  by_cases q1 : wd B p r 1 = true
  · rw [if_pos q1, if_pos q1]; rfl
  rw [if_neg q1, if_neg q1, bd_e (e 2 (by decide))]
  by_cases q2 : wd B p r 2 = true
  · rw [if_pos q2, if_pos q2]; rfl
  rw [if_neg q2, if_neg q2, bd_e (e 3 (by decide))]
  by_cases q3 : wd B p r 3 = true
  · rw [if_pos q3, if_pos q3]; rfl
  rw [if_neg q3, if_neg q3, bd_e (e 4 (by decide))]
  by_cases q4 : wd B p r 4 = true
  · rw [if_pos q4, if_pos q4]; rfl
  rw [if_neg q4, if_neg q4, bd_e (e 5 (by decide))]
  by_cases q5 : wd B p r 5 = true
  · rw [if_pos q5, if_pos q5]; rfl
  rw [if_neg q5, if_neg q5, bd_e (e 6 (by decide))]
  by_cases q6 : wd B p r 6 = true
  · rw [if_pos q6, if_pos q6]; rfl
  rw [if_neg q6, if_neg q6, bd_e (e 7 (by decide))]
  by_cases q7 : wd B p r 7 = true
  · rw [if_pos q7, if_pos q7]; rfl
  rw [if_neg q7, if_neg q7, bd_e (e 8 (by decide))]
  by_cases q8 : wd B p r 8 = true
  · rw [if_pos q8, if_pos q8]; rfl
  rw [if_neg q8, if_neg q8]; rfl
/-- indexOf in the signs -/
theorem ix_loop {G : GG} {m : MM} {x : Int32} : ∀ (fu k : Nat), 12 - k < fu → k ≤ 12 → ∃ r : Int32, B_J1_indexOfChar_4cfef_7 G fu 9 (nI 12) x (nI k) m = some (r, m) ∧ (r < 0 ↔ ∀ j, k ≤ j → j < 12 → ¬ (bytS.getD 9 []).getD j 0 = x) := by
  intro fu
  induction fu with
  | zero => intro r hr; exact absurd hr (by omega)
  | succ fu ih =>
    intro k hr hk
    rw [B_J1_indexOfChar_4cfef_7]
    by_cases hl : 12 ≤ k
    · rw [if_pos ((nI_leI (by omega) (by omega)).mpr hl)]
      exact ⟨_, rfl, fun _ j h1 h2 => by omega, fun _ => by decide⟩
    · rw [if_neg (fun z => hl ((nI_leI (by omega) (by omega)).mp z)), ib_n (show k < lenS.getD 9 0 by show k < 12; omega) (by decide), nI_clamp (by omega)]
      by_cases he : (bytS.getD 9 []).getD k 0 = x
      · rw [if_pos he]
        exact ⟨_, rfl, fun q => absurd q (nI_pos (by omega)), fun q => absurd he (q k (Nat.le_refl _) (by omega))⟩
      · rw [if_neg he, nI_1]
        obtain ⟨r, e1, e2⟩ := ih (k + 1) (by omega) (by omega)
        refine ⟨r, e1, e2.trans ⟨fun q j h1 h2 => ?_, fun q j h1 h2 => q j (by omega) h2⟩⟩
        rcases Nat.lt_or_ge k j with z | z
        · exact q j z h2
        · rw [show j = k by omega]; exact he
theorem sg_all : ∀ v, v < 256 → (isSg (nI v) = false ↔ ∀ j, j < 12 → ¬ (bytS.getD 9 []).getD j 0 = (ch (nI v)).toInt8.toInt32) ∧ ch (nI v) = nI v := by decide +kernel
theorem ix_sg {G : GG} {m : MM} {v : Nat} (hv : v < 256) : ∃ r : Int32, M_J0_indexOf_0f7a4 G 9 (ch (nI v)) m = some (r, m) ∧ (r < 0 ↔ isSg (nI v) = false) := by
  obtain ⟨h1, h2⟩ := sg_all v hv
  obtain ⟨r, e1, e2⟩ := ix_loop (G := G) (m := m) (x := (ch (nI v)).toInt8.toInt32) FU 0 (by unfold FU; omega) (by omega)
  refine ⟨r, ?_, e2.trans ⟨fun q => h1.mpr (fun j hj => q j (Nat.zero_le _) hj), fun q j _ hj => h1.mp q j hj⟩⟩
  unfold M_J0_indexOf_0f7a4 M_J0_indexOf_7cf53 M_J0_isLatin1_aae02
  rw [bd_e rfl, if_pos rfl, bd_e (st_len (by decide))]
  unfold M_J1_indexOf_4cfef M_J1_canEncode_9a6ad
  rw [h2, if_neg (nI_pos (by omega)), if_neg (show ¬ (255 : Int32) < nI v from nI_nlt (a := 255) (by omega) (by omega)), bd_e rfl, if_pos rfl]
  rw [show (if (0 : Int32) < 0 then (0 : Int32) else 0) = 0 from by decide, show (if (nI (lenS.getD 9 0)) < (nI (lenS.getD 9 0)) then (nI (lenS.getD 9 0)) else (nI (lenS.getD 9 0))) = nI 12 from by decide, if_pos (by decide)]
  unfold M_J1_indexOfChar_4cfef
  rw [h2, nI_0] at e1
  rw [bd_e (bd_e (bd_e e1)).symm.symm]
