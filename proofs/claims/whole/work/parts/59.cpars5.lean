/-! ===== L2: the class reads a text ===== -/
def RZ (m m1 : MM) (n : Nat) : Prop := ∀ a j, a < n + 204 ∨ n + 207 < a → gR m1 a j = gR m a j
theorem RX.rz {m m1 : MM} {n : Nat} (h : RX m m1 n) : RZ m m1 n := fun a j h1 => h a j (by omega)
theorem RZ.tr {m m1 m2 : MM} {n : Nat} (h : RZ m m1 n) (h2 : RZ m1 m2 n) : RZ m m2 n := fun a j x => (h2 a j x).trans (h a j x)
/-- the class's tools -/
def ST (G : GG) (m : MM) (n : Nat) : Prop := gR m (n + 204) 0 = some (n + 205) ∧ gR m (n + 204) 1 = some (n + 207) ∧ gR m (n + 205) 0 = some (n + 206) ∧ G.2.2 (n + 206) = 2001 ∧ gR m (n + 207) 0 = some (n + 208) ∧ G.2.2 (n + 208) = 26
theorem ST.rx {G : GG} {m m1 : MM} {n : Nat} (h : ST G m n) (x : RX m m1 n) : ST G m1 n := by
  obtain ⟨h1, h2, h3, h4, h5, h6⟩ := h
  exact ⟨by rw [x _ _ (by omega)]; exact h1, by rw [x _ _ (by omega)]; exact h2, by rw [x _ _ (by omega)]; exact h3, h4, by rw [x _ _ (by omega)]; exact h5, h6⟩
theorem LPg.rz {G : GG} {m m1 : MM} {n pg : Nat} (h : LPg G m pg) (e : RZ m m1 n) (hN : PN n pg) : LPg G m1 pg := by
  unfold PN at hN
  exact ⟨by rw [e _ _ (by omega)]; exact h.1, by rw [e _ _ (by omega)]; exact h.2.1, h.2.2.1, h.2.2.2.1, fun i hi => ⟨by rw [e _ _ (by omega)]; exact (h.2.2.2.2 i hi).1, fun j hj => ⟨by rw [e _ _ (by omega)]; exact ((h.2.2.2.2 i hi).2 j hj).1, ((h.2.2.2.2 i hi).2 j hj).2⟩⟩⟩
theorem cp_readText {G : GG} {m : MM} {n pg tp len : Nat} {B : Nat → Int32} (hN : PN n pg) (hS : ST G m n) (hL : LPg G m pg) (h7 : gR m pg 2 = some (pg + 3)) (h8 : G.2.2 (pg + 3) = 2000) (h9 : gI m pg 3 = nI 0) (h10 : gI m pg 4 = nI 0) (h11 : gR m pg 5 = some tp) (hT : TP G m tp len B) (htp : tp = n + 201 ∨ tp = n + 214) (hf0 : gI m (n + 203) 0 = nI 0) (hf1 : gI m (n + 203) 1 = nI 0) :
    (∀ P K r, pTx 9 [] [] (tks B len 0) = (some (P, K), r) → ∃ m1 k1, M_X5_readText G (n + 204) pg (n + 203) m = some (true, m1) ∧ PS G m1 n pg (tks B len 0) k1 K P ∧ OW m m1 n pg ∧ RZ m m1 n ∧ ST G m1 n) ∧ ∀ r, pTx 9 [] [] (tks B len 0) = (none, r) → ∃ m1, M_X5_readText G (n + 204) pg (n + 203) m = some (false, m1) ∧ gI m1 (n + 203) 0 = nI 1 ∧ gI m1 (n + 203) 1 = nI (plc r) ∧ OW m m1 n pg ∧ RZ m m1 n ∧ ST G m1 n := by
  have hN2 := hN
  unfold PN at hN2
  obtain ⟨h1, h2, h3, h4, h5, h6⟩ := hS
  unfold M_X5_readText
  obtain ⟨mA, eA⟩ : ∃ mA, sR (sR m (n + 204) 2 (some pg)) (n + 204) 3 (some (n + 203)) = mA := ⟨_, rfl⟩
  rw [eA]
  have gA : ∀ a j, ¬ (a = n + 204 ∧ 2 ≤ j) → gR mA a j = gR m a j := fun a j z => by
    rw [← eA, gR_sR, if_neg (by omega), gR_sR, if_neg (by omega)]
  have oA : Off m mA [n + 204] := by rw [← eA]; exact Off.sR.tr1 Off.sR
  rw [nb_e (show gR mA (n + 204) 0 = some (n + 205) by rw [gA _ _ (by omega)]; exact h1), nb_e (show gR mA pg 5 = some tp by rw [gA _ _ (by omega)]; exact h11)]
  have hTA : TP G mA tp len B := hT.kept oA (by simp; omega) (by simp; omega)
  obtain ⟨mB, e1, e2, e3⟩ := tk_split (tk := n + 205) (show gR mA (n + 205) 0 = some (n + 205 + 1) by rw [gA _ _ (by omega)]; exact h3) h4 hTA (by omega) (by omega) (by omega)
  have gB : ∀ a j, a ≠ n + 205 → a ≠ n + 206 → gR mB a j = gR mA a j := fun a j x y => e2.R (by simp; omega) j
  have gB5 : gR mB (n + 205) 0 = some (n + 206) := e3.1.1
  unfold M_X2_begin
  rw [bd_e e1, nb_e (show gR mB (n + 204) 1 = some (n + 207) by rw [gB _ _ (by omega) (by omega), gA _ _ (by omega)]; exact h2), nb_e (show gR mB (n + 204) 0 = some (n + 205) by rw [gB _ _ (by omega) (by omega), gA _ _ (by omega)]; exact h1), bd_e rfl]
  obtain ⟨mC, eC⟩ : ∃ mC, sR (sR (sR mB (n + 207) 1 (some (n + 205))) (n + 207) 2 (some pg)) (n + 207) 3 (some (n + 203)) = mC := ⟨_, rfl⟩
  rw [eC]
  have gC : ∀ a j, ¬ (a = n + 207 ∧ 1 ≤ j) → gR mC a j = gR mB a j := fun a j z => by
    rw [← eC, gR_sR, if_neg (by omega), gR_sR, if_neg (by omega), gR_sR, if_neg (by omega)]
  have oC : Off mB mC [n + 207] := by rw [← eC]; exact (Off.sR.tr1 Off.sR).tr1 Off.sR
  have o : Off m mC [n + 204, n + 205, n + 206, n + 207] := ((oA.tr e2).tr oC).mono (by simp)
  have rz : RZ m mC n := fun a j x => o.R (by simp; omega) j
  have hST : ST G mC n := by
    refine ⟨?_, ?_, ?_, h4, ?_, h6⟩
    · rw [gC _ _ (by omega), gB _ _ (by omega) (by omega), gA _ _ (by omega)]; exact h1
    · rw [gC _ _ (by omega), gB _ _ (by omega) (by omega), gA _ _ (by omega)]; exact h2
    · rw [gC _ _ (by omega)]; exact gB5
    · rw [gC _ _ (by omega), gB _ _ (by omega) (by omega), gA _ _ (by omega)]; exact h5
  have hTC : TK G mC (n + 205) (tks B len 0) 0 := e3.kept oC (by simp) (by simp)
  have hPC : PC G mC n pg := by
    refine ⟨hST.1, hST.2.1, ?_, ?_, hST.2.2.2.2.1, h6, ?_, ?_, ?_⟩
    · rw [gC _ _ (by omega), gB _ _ (by omega) (by omega), ← eA, gR_sR, if_neg (by omega), gR_sR, if_pos ⟨rfl, rfl⟩]
    · rw [gC _ _ (by omega), gB _ _ (by omega) (by omega), ← eA, gR_sR, if_pos ⟨rfl, rfl⟩]
    · rw [← eC, gR_sR, if_neg (by omega), gR_sR, if_neg (by omega), gR_sR, if_pos ⟨rfl, rfl⟩]
    · rw [← eC, gR_sR, if_neg (by omega), gR_sR, if_pos ⟨rfl, rfl⟩]
    · rw [← eC, gR_sR, if_pos ⟨rfl, rfl⟩]
  have hPS : PS G mC n pg (tks B len 0) 0 [] [] := by
    refine ⟨hPC, hL.rz rz hN, hTC, ⟨by rw [rz _ _ (by omega)]; exact h7, h8, by rw [o.I (by simp; omega)]; exact h10, by simp, fun j v hj => by simp at hj⟩, ⟨by rw [o.I (by simp; omega)]; exact h9, fun e E hEe => by simp at hEe⟩, ⟨by simp, fun E hEm => by simp at hEm⟩, ⟨[], ⟨by rw [o.I (by simp)]; exact hf0, by rw [o.I (by simp)]; exact hf1, by simp, by simp⟩, fun q => by simp [bdK]⟩, by simp, ?_⟩
    obtain ⟨c, hc, -⟩ := hTC.2.2.2
    exact get_lt hc
  obtain ⟨x1, x2⟩ := cp_text hN (el_tks hT.tx 0) (FU - 1) 9 0 [] mC [] hPS (by unfold FU; simp) (by simp)
  rw [List.length_nil, nI_0, show FU - 1 + 1 = FU from rfl, List.drop_zero] at x1 x2
  have oo : OW m mC n pg := o.ow (by simp)
  refine ⟨fun P K r z => ?_, fun r z => ?_⟩
  · obtain ⟨m1, k1, a1, a2, a3, a4⟩ := x1 P K r z
    exact ⟨m1, k1, a1, a2, oo.tr a3, rz.tr a4.rz, hST.rx a4⟩
  · obtain ⟨m1, a1, a2, a3, a4, a5⟩ := x2 r z
    exact ⟨m1, a1, a2, a3, oo.tr a4, rz.tr a5.rz, hST.rx a5⟩
