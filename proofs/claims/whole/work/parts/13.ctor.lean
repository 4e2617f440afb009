/-! ===== what is made: objects and arrays; constructors ===== -/
def gN (G : GG) (κ n : Nat) : GG := (G.1 + 1, va_up G.2.1 G.1 κ, va_up G.2.2 G.1 n)
def clr (m : MM) (a : Nat) : MM := (fun b j => if b = a then 0 else m.1 b j, fun b j => if b = a then 0 else m.2.1 b j, fun b j => if b = a then none else m.2.2 b j)
def Gle (G G1 : GG) : Prop := G.1 ≤ G1.1 ∧ ∀ a, a < G.1 → G1.2.1 a = G.2.1 a ∧ G1.2.2 a = G.2.2 a
theorem Gle_rf {G : GG} : Gle G G := ⟨Nat.le_refl _, fun _ _ => ⟨rfl, rfl⟩⟩
theorem Gle_up {G G1 : GG} {κ n : Nat} (h : Gle G G1) : Gle G (gN G1 κ n) := by
  refine ⟨Nat.le_succ_of_le h.1, fun a ha => ?_⟩
  have hne : a ≠ G1.1 := by have := h.1; omega
  simp only [gN, va_up, if_neg hne]
  exact h.2 a ha
theorem Gle_tr {G G1 G2 : GG} (h : Gle G G1) (h2 : Gle G1 G2) : Gle G G2 := ⟨Nat.le_trans h.1 h2.1, fun a ha => ⟨(h2.2 a (Nat.lt_of_lt_of_le ha h.1)).1.trans (h.2 a ha).1, (h2.2 a (Nat.lt_of_lt_of_le ha h.1)).2.trans (h.2 a ha).2⟩⟩
theorem Ty_le {E : EE} {G G1 : GG} {a κ : Nat} (g : Gle G G1) (h : Ty E G a κ) : Ty E G1 a κ := ⟨h.1, Nat.lt_of_lt_of_le h.2.1 g.1, (g.2 a h.2.1).1.trans h.2.2⟩
theorem Ty_new {E : EE} {G : GG} {κ n : Nat} (h : E.2.2.1 ≤ G.1) : Ty E (gN G κ n) G.1 κ := ⟨h, Nat.lt_succ_self _, by simp [gN, va_up]⟩
def bg {β : Type} (x : Option (GG × MM)) (f : GG → MM → Option β) : Option β := match x with
  | none => none
  | some q => f q.1 q.2
theorem bg_some {β : Type} {x : Option (GG × MM)} {f : GG → MM → Option β} {z : β} (h : bg x f = some z) : ∃ (g : GG) (m1 : MM), x = some (g, m1) ∧ f g m1 = some z := by
  cases x with
  | none => cases h
  | some q => exact ⟨q.1, q.2, rfl, h⟩
def okT : FieldType → Bool
  | .float => false
  | .double => false
  | _ => true
theorem okT_df {t : FieldType} (h : okT t = true) (m : MM) (a k : Nat) : defaultValue t = fv t (clr m a) a k := by
  cases t <;> first | (cases h; done) | simp [defaultValue, fv, clr, gI, gL, gR, va_rf]
section CtorRows
variable {p : Program} {l : Launch} {e : Env} {R : Room} {s : State} {mth : MethodId} {args : Array Value} {below : List Frame} {meth : Method} {c : Code} {H : Heap} {locs : List Loc} {cells slots : Nat} {Q : State → Prop} {E : EE} {G G1 : GG} {m : MM} {cc : ByteArray} {own nm : String} {nL : Nat} {ret : Option FieldType} {pc : Nat} {ls : Array Slot} {rest : List Value} {a : Nat}
theorem Cx_le (g : Gle G G1) (C : Cx E G p s mth args meth c cc own nm nL ret) : Cx E G1 p s mth args meth c cc own nm nL ret := by
  obtain ⟨a1, a2, a3, a4, a5, a6, a7, a8, a9, a10, a11⟩ := C
  exact ⟨a1, a2, a3, a4, a5, a6, a7, a8, a9, Nat.le_trans a10 g.1, a11⟩
theorem cAt_up {κ n b : Nat} (hb : b < G.1) (h : cAt E G m H b) : cAt E (gN G κ n) m H b := by
  have hne : b ≠ G.1 := by omega
  have e1 : (gN G κ n).2.1 b = G.2.1 b := by simp [gN, va_up, hne]
  have e2 : (gN G κ n).2.2 b = G.2.2 b := by simp [gN, va_up, hne]
  unfold cAt at h ⊢
  rw [e1, e2]
  exact h
theorem clr_off {b : Nat} (h : b ≠ a) : (clr m a).1 b = m.1 b ∧ (clr m a).2.1 b = m.2.1 b ∧ (clr m a).2.2 b = m.2.2 b := by
  simp [clr, h]
theorem WT_up {κ n : Nat} (h : WT E G m) : WT E (gN G κ n) (clr m G.1) := by
  intro a1 k b h1 h2 h3
  by_cases he : a1 = G.1
  · subst he
    simp [gR, clr] at h3
  · have hlt : a1 < G.1 := by have : a1 < G.1 + 1 := h2; omega
    have h4 : gR m a1 k = some b := by simpa [gR, clr, he] using h3
    have h5 := h a1 k b h1 hlt h4
    have e1 : (gN G κ n).2.1 a1 = G.2.1 a1 := by simp [gN, va_up, he]
    rw [e1]
    exact Ty_le (Gle_up Gle_rf) h5
theorem Hp_new {κ n : Nat} {H1 : Heap} (h : Hp E G m s H locs) (hz : H1.size = G.1 + 1) (ho : ∀ q, q < G.1 → H1[q]? = H[q]?) (hn : cAt E (gN G κ n) (clr m G.1) H1 G.1) : Hp E (gN G κ n) (clr m G.1) s H1 locs := by
  obtain ⟨⟨h1, h2⟩, h3, h4⟩ := h
  refine ⟨⟨hz, fun b b1 b2 => ?_⟩, WT_up h3, ⟨by have := h4.1; omega, fun q q1 q2 => (ho q (by have := h4.1; omega)).trans (h4.2.1 q q1 q2), h4.2.2⟩⟩
  by_cases he : b = G.1
  · subst he
    exact hn
  · have hlt : b < G.1 := by have : b < G.1 + 1 := b2; omega
    obtain ⟨o1, o2, o3⟩ := clr_off (m := m) he
    exact cAt_up hlt ((h2 b b1 hlt).kept (ho b hlt) o1 o2 o3)
theorem h_new (C : Cx E G p s mth args meth c cc own nm nL ret) (h : Hp E G m s H locs) (ci : Nat) {Cn : String} {T : u_T} {N : Nat} (hc : vwCl[ci]? = some (Cn, T, N)) (hci : ci < 12) (hcn : fcn ci = N) (hin : ∀ w ∈ u_ws Cn T N, w ∈ lwg) (hty : ∀ k, k < N → parseFieldDescriptor (T k).2.2.1 = some (fty ci k)) (hok : ∀ k, k < N → okT (fty ci k) = true) {index : Nat} (hcl : Cond.classLink own index Cn ∈ lwg) (his : Cond.instantiable Cn N ∈ lwg) (hii : Cond.initialized Cn ∈ lwg) (hcells : cells + 1 ≤ R.cells) (hslots : slots + N ≤ R.slots) (hdg : decode cc pc = .ok (.new index, 3))
    (kk : ∀ (H : Heap) (locs : List Loc), Hp E (gN G ci 0) (clr m G.1) s H locs → W p l e R s mth args below meth c H locs (cells + 1) (slots + N) Q (F0 mth (pc + 3) ls (.ref G.1 :: rest))) : W p l e R s mth args below meth c H locs cells slots Q (F0 mth pc ls rest) := by
  obtain ⟨hx, hb, hml, hown, hts, hr, hlk, hK, hS, hbs, -⟩ := C
  have hKn := hK.1 ci _ hc
  refine W.newcK hx hb hown (hts _ hcl) (hts _ his) (hts _ hii) rfl hdg hcells hslots hKn.2.1 h.1.1 fun H1 kC hkC e1 z1 o1 => ?_
  refine kk H1 _ (Hp_new h z1 o1 ⟨fun _ => ?_, fun hl => ?_⟩)
  · have e2 : (gN G ci 0).2.1 G.1 = ci := by simp [gN, va_up]
    rw [e2, hcn]
    exact (u_born (fty ci) hts hin hKn hkC e1 hty).to (fun k hk => okT_df (hok k hk) m G.1 k)
  · have e2 : (gN G ci 0).2.1 G.1 = ci := by simp [gN, va_up]
    rw [e2] at hl
    omega
theorem h_newa (C : Cx E G p s mth args meth c cc own nm nL ret) (h : Hp E G m s H locs) (κ : Nat) (h12 : 12 ≤ κ) (h15 : κ ≤ 15) {atype : ArrayType} (hty : newarray.typeOf atype = tyA κ) (hac : Cond.arrayClass (tyA κ) ∈ lwg) {n : Int32} (N : Nat) (hn : ¬ n < 0) (hN : n.toNatClampNeg = N) (hbytes : N * componentBytes (tyA κ) ≤ 536870912) (hcells : cells + 1 ≤ R.cells) (hslots : slots + N ≤ R.slots) (hdg : decode cc pc = .ok (.newarray atype, 2))
    (kk : ∀ (H : Heap) (locs : List Loc), Hp E (gN G κ N) (clr m G.1) s H locs → W p l e R s mth args below meth c H locs (cells + 1) (slots + N) Q (F0 mth (pc + 2) ls (.ref G.1 :: rest))) : W p l e R s mth args below meth c H locs cells slots Q (F0 mth pc ls (.int n :: rest)) := by
  obtain ⟨hx, hb, hml, hown, hts, hr, hlk, hK, hS, hbs, -⟩ := C
  refine va_newaK hx hb (by rw [hty]; exact hts _ hac) rfl hdg rfl hn hN (by rw [hty]; exact hbytes) hcells hslots h.1.1 fun H1 cA e1 z1 o1 hAr hNm => ?_
  rw [hty] at e1 hNm
  have hRA := (hK.2.1 κ h12 (by omega)).2
  have hcA : cA = E.2.1 κ := by
    have h5 : s.vm.findClass ("[" ++ (tyA κ).toString) = some (E.2.1 κ) := by
      rcases (show κ = 12 ∨ κ = 13 ∨ κ = 14 ∨ κ = 15 by omega) with rfl | rfl | rfl | rfl <;> exact hRA
    exact Option.some.inj (hNm.symm.trans h5)
  subst hcA
  have e2 : (gN G κ N).2.1 G.1 = κ := by simp [gN, va_up]
  have e3 : (gN G κ N).2.2 G.1 = N := by simp [gN, va_up]
  refine kk H1 _ (Hp_new h z1 o1 ⟨fun hl => ?_, fun _ => ?_⟩)
  · rw [e2] at hl
    omega
  · rw [e2, e3, e1]
    congr 2
    funext j
    rcases (show κ = 12 ∨ κ = 13 ∨ κ = 14 ∨ κ = 15 by omega) with rfl | rfl | rfl | rfl <;> simp [tyA, defaultValue, ev, clr, gI, gL]
theorem h_newq (C : Cx E G p s mth args meth c cc own nm nL ret) (h : Hp E G m s H locs) {index : Nat} (hcl : Cond.classLink own index RX1 ∈ lwg) {n : Int32} (N : Nat) (hn : ¬ n < 0) (hN : n.toNatClampNeg = N) (hbytes : N * 4 ≤ 536870912) (hcells : cells + 1 ≤ R.cells) (hslots : slots + N ≤ R.slots) (hdg : decode cc pc = .ok (.anewarray index, 3))
    (kk : ∀ (H : Heap) (locs : List Loc), Hp E (gN G 16 N) (clr m G.1) s H locs → W p l e R s mth args below meth c H locs (cells + 1) (slots + N) Q (F0 mth (pc + 3) ls (.ref G.1 :: rest))) : W p l e R s mth args below meth c H locs cells slots Q (F0 mth pc ls (.int n :: rest)) := by
  obtain ⟨hx, hb, hml, hown, hts, hr, hlk, hK, hS, hbs, -⟩ := C
  subst hN
  refine W.anew hx hb hown (hts _ hcl) (va_AO.use hK.2.2.2) rfl hdg rfl hn hbytes hcells hslots fun cA kA comp f1 f2 f3 f4 => ?_
  obtain ⟨kA', comp', k1, k2, k3, k4⟩ := (hK.2.1 16 (by decide) (by decide)).2
  have hcA : cA = E.2.1 16 := Option.some.inj (f1.symm.trans k4)
  subst hcA
  have e2 : (gN G 16 n.toNatClampNeg).2.1 G.1 = 16 := by simp [gN, va_up]
  have e3 : (gN G 16 n.toNatClampNeg).2.2 G.1 = n.toNatClampNeg := by simp [gN, va_up]
  have hsz := h.1.1
  rw [hsz]
  refine kk _ _ (Hp_new h (by simp [hsz]) (fun q hq => by rw [Array.getElem?_push, if_neg (by omega)]) ⟨fun hl => ?_, fun _ => ?_⟩)
  · rw [e2] at hl
    omega
  · rw [e2, e3, ← hsz]
    simp only [Array.getElem?_push_size, arrV]
    congr 2
    apply Array.ext
    · simp
    · intro i h1 h2
      simp [ev, clr, gR, va_rf]
theorem h_aast (C : Cx E G p s mth args meth c cc own nm nL ret) (h : Hp E G m s H locs) (ha : Ty E G a 16) {i : Int32} {v : Nat} (hv : Ty E G v 1) (hin : vp_in i (G.2.2 a)) (hdg : decode cc pc = .ok (.aastore, 1))
    (kk : ∀ (H : Heap) (locs : List Loc), Hp E G (sR m a i.toNatClampNeg (some v)) s H locs → W p l e R s mth args below meth c H locs cells slots Q (F0 mth (pc + 1) ls rest)) : W p l e R s mth args below meth c H locs cells slots Q (F0 mth pc ls (.ref v :: .int i :: .ref a :: rest)) := by
  obtain ⟨hx, hb, hml, hown, hts, hr, hlk, hK, hS, hbs, -⟩ := C
  have hlt : i.toNatClampNeg < G.2.2 a := Nat.not_le.mp fun q => hin (Or.inr q)
  have h0 : ¬ i < 0 := fun q => hin (Or.inl q)
  have hWT := WT_sR (m := m) (k := i.toNatClampNeg) (κ := 16) (v := some v) h.2.1 (fun b hb => by cases hb; exact hv) ha
  obtain ⟨⟨hz, hP⟩, hW, hA⟩ := h
  obtain ⟨h1, h2, h3⟩ := ha
  have hc := (hP a h1 h2).2 (by rw [h3]; decide)
  rw [h3] at hc
  obtain ⟨cellV, g1, g2, g3, -⟩ := (hP v hv.1 hv.2.1).1 (by rw [hv.2.2]; decide)
  rw [hv.2.2] at g2
  have hcls := (hK.1 1 _ rfl).2
  obtain ⟨kA, comp, k1, k2, k3, -⟩ := (hK.2.1 16 (by decide) (by decide)).2
  have hcomp : comp = E.1.1 1 := Option.some.inj (k3.symm.trans hcls.1)
  subst hcomp
  obtain ⟨kC, hkC, -⟩ := hcls.2
  refine W.aast hx hb hc (fun q h => by cases h) (fun h => by cases h) k1 k2 rfl hkC ⟨h0, by rw [arrV_size]; exact hlt⟩ g1 (fun q h => by rw [g3] at h; cases h) (by rw [g2]; exact hkC) (by rw [g2]; exact va_assign hcls) rfl rfl hdg fun H1 e1 e2 e3 => ?_
  refine kk H1 _ ⟨⟨by rw [e2]; exact hz, fun b b1 b2 => ?_⟩, hWT, hA.put e2 e3 h1⟩
  by_cases hba : b = a
  · subst hba
    refine ⟨fun hl => absurd hl (by rw [h3]; decide), fun hl => ?_⟩
    rw [h3, arr_updR, e1, arrV_store]
    rfl
  · obtain ⟨o1, o2, o3⟩ := sR_off (m := m) (k := i.toNatClampNeg) (v := some v) hba
    exact (hP b b1 b2).kept (e3 b hba) o1 o2 o3
theorem h_obj (C : Cx E G p s mth args meth c cc own nm nL ret) (hsz : ls.size = nL) {idx : Nat} (hlk : Cond.methodLink own idx Lib.objectInit ∈ lwg) (hframes : 1 ≤ R.frames) (hlocals : (rest.map fun v => v.category).sum + 12 ≤ R.locals) (hdg : decode cc pc = .ok (.invokespecial idx, 3))
    (kk : W p l e R s mth args below meth c H locs cells slots Q (F0 mth (pc + 3) ls rest)) : W p l e R s mth args below meth c H locs cells slots Q (F0 mth pc ls (.ref a :: rest)) := by
  obtain ⟨hx, hb, hml, hown, hts, hr, -⟩ := C
  exact W.objInit hx hb hown (hts _ hlk) (hts _ im_objectInit) (hts _ cd_objectInit) rfl (hsz.trans hml.symm) rfl hdg hframes (by have h0 : (F0 mth pc ls (.ref a :: rest)).monitorRoom = 0 := rfl; rw [h0]; omega) kk
theorem h_callI (C : Cx E G p s mth args meth c cc own nm nL ret) (h : Hp E G m s H locs) {y : MethodName} {bytes : ByteArray} {maxL index : Nat} {rm : Room} {b : Nat} {st : List Value} (G1 : GG) (m1 : MM) (hM : Mc l E y bytes maxL none rm [.ref b] G m (cQv E G1 m1)) (hy1 : y.name = "<init>") (hin : Cond.instanceMethod y ∈ lwg) (hy : Cy y bytes maxL none 0) (hlk : Cond.methodLink own index y ∈ lwg) (hR : rm.frames + 1 ≤ R.frames ∧ 8 + (maxL + 11) + rm.locals ≤ R.locals) (hf : cells + rm.cells ≤ R.cells ∧ slots + rm.slots ≤ R.slots) (hsz : ls.size = nL) (hst : st = .ref b :: rest) (hrest : (rest.map fun v => v.category).sum ≤ 8) (hdg : decode cc pc = .ok (.invokespecial index, 3))
    (kk : ∀ (H : Heap) (locs : List Loc), Hp E G1 m1 s H locs → W p l e R s mth args below meth c H locs (cells + rm.cells) (slots + rm.slots) Q (F0 mth (pc + 3) ls rest)) : W p l e R s mth args below meth c H locs cells slots Q (F0 mth pc ls st) := by
  have hB := callB_my (R := R) C hy hlk hR
  obtain ⟨hx, hb0, hml, hown, hts, -⟩ := id C
  refine va_callv (va_runI (As := []) (rest := rest) ⟨hx, hb0, hml, hown, hts⟩ hM ⟨hB, hy1, hts _ hin⟩ ⟨WD.blind, fun U hU hW => ⟨rfl, WD.at C h hU hW⟩⟩ rfl rfl hsz hst (lv_room hrest) hdg hf) h.2.2 (fun q _ hq => hq) (fun q hq => hq) (fun u t H1 locs1 ht hvm hp hB1 hz1 hk1 hS1 => ?_)
  subst ht
  exact kk _ _ ⟨hB1.1, hB1.2.1, hS1⟩
theorem h_callN (C : Cx E G p s mth args meth c cc own nm nL ret) (h : Hp E G m s H locs) {y : MethodName} {host : String} {bytes : ByteArray} {maxL index : Nat} {rm : Room} {b : Nat} {st : List Value} (G1 : GG) (m1 : MM) (hM : Mc l E y bytes maxL none rm [.ref b] G m (cQv E G1 m1)) (hy1 : y.name = "<init>") (hin : Cond.instanceMethod y ∈ lwg) (hy : Cy y bytes maxL none 0) (hlk : (own, index, y, host) ∈ lwn) (hR : rm.frames + 1 ≤ R.frames ∧ 8 + (maxL + 11) + rm.locals ≤ R.locals) (hf : cells + rm.cells ≤ R.cells ∧ slots + rm.slots ≤ R.slots) (hsz : ls.size = nL) (hst : st = .ref b :: rest) (hrest : (rest.map fun v => v.category).sum ≤ 8) (hdg : decode cc pc = .ok (.invokespecial index, 3))
    (kk : ∀ (H : Heap) (locs : List Loc), Hp E G1 m1 s H locs → W p l e R s mth args below meth c H locs (cells + rm.cells) (slots + rm.slots) Q (F0 mth (pc + 3) ls rest)) : W p l e R s mth args below meth c H locs cells slots Q (F0 mth pc ls st) := by
  obtain ⟨hx, hb0, hml, hown, hts, -, -, hK, -⟩ := id C
  have hB := va_cnB (R := R) (rm := rm) (mc := rm.cells) (ms := rm.slots) (bytes := bytes) (maxL := maxL) (ret := none) (ws := Cond.code y bytes maxL none :: lwg) 0 hts (lwg_good hy.1) rfl rfl rfl (hK.2.2.1 _ hlk) (hts _ hy.2.1) hy.2.2 hR
  refine va_callv (va_runIN (As := []) (rest := rest) ⟨hx, hb0, hml, hown, hts⟩ hM ⟨hB, hy1, hts _ hin⟩ ⟨WD.blind, fun U hU hW => ⟨rfl, WD.at C h hU hW⟩⟩ rfl rfl hsz hst (lv_room hrest) hdg hf) h.2.2 (fun q _ hq => hq) (fun q hq => hq) (fun u t H1 locs1 ht hvm hp hB1 hz1 hk1 hS1 => ?_)
  subst ht
  exact kk _ _ ⟨hB1.1, hB1.2.1, hS1⟩
end CtorRows
theorem itn_f {α : Type} {c : Prop} [Decidable c] {B : Option α} {z : α} (h : (if c then none else B) = some z) : ¬ c ∧ B = some z := by
  split at h
  · cases h
  · rename_i q
    exact ⟨q, h⟩
abbrev rmX0_init : Room := { frames := 1, cells := 0, slots := 0, locals := 30 }
def K_X0_init (G : GG) (x0 : Nat) (m : MM) : Option (GG × MM) :=
  some (G, m)
theorem gle_X0_init {G G9 : GG} {x0 : Nat} {m m9 : MM} (hM : K_X0_init G x0 m = some (G9, m9)) : Gle G G9 := by
  unfold K_X0_init at hM
  cases hM
  exact Gle_rf
theorem cy_X0_init : Cy yX0_init cX0_init 1 none 0 := ⟨cd_yX0_init, ii_X0, by decide, by decide, by decide +kernel⟩
set_option maxRecDepth 100000 in
set_option maxHeartbeats 4000000 in
theorem c_X0_init {l : Launch} {E : EE} {G G9 : GG} {x0 : Nat} {m m9 : MM} (hM : K_X0_init G x0 m = some (G9, m9)) (tx0 : Ty E G x0 0) (hb0 : E.2.2.1 ≤ G.1) : Mc l E yX0_init cX0_init 1 none rmX0_init [.ref x0] G m (cQv E G9 m9) := by
  refine M_of (by decide) (Nat.le_of_ble_eq_true rfl) (fun p e s mth below meth c C h ls hl => ?_)
  unfold K_X0_init at hM
  refine lv_aload_n C.1 C.2.1 dX0_init_0 rfl (lv_at hl 0 rfl) ?_
  refine h_obj C hl.1 ml_X0_3 (by decide) (by decide) dX0_init_1 ?_
  cases hM
  exact h_vret C h dX0_init_4
abbrev rmX1_init : Room := { frames := 1, cells := 11, slots := 204, locals := 30 }
def K_X1_init (G : GG) (x0 : Nat) (m : MM) : Option (GG × MM) :=
  some ((gN (gN (gN (gN (gN (gN (gN (gN (gN (gN (gN G 12 12) 12 12) 14 12) 12 96) 12 8) 12 8) 12 6) 12 6) 12 6) 12 12) 12 26), sR (clr (sR (clr (sR (clr (sR (clr (sR (clr (sR (clr (sR (clr (sR (clr (sR (clr (sR (clr (sR (clr m G.1) x0 0 (some G.1)) (gN G 12 12).1) x0 1 (some ((gN G 12 12).1))) (gN (gN G 12 12) 12 12).1) x0 2 (some ((gN (gN G 12 12) 12 12).1))) (gN (gN (gN G 12 12) 12 12) 14 12).1) x0 3 (some ((gN (gN (gN G 12 12) 12 12) 14 12).1))) (gN (gN (gN (gN G 12 12) 12 12) 14 12) 12 96).1) x0 4 (some ((gN (gN (gN (gN G 12 12) 12 12) 14 12) 12 96).1))) (gN (gN (gN (gN (gN G 12 12) 12 12) 14 12) 12 96) 12 8).1) x0 5 (some ((gN (gN (gN (gN (gN G 12 12) 12 12) 14 12) 12 96) 12 8).1))) (gN (gN (gN (gN (gN (gN G 12 12) 12 12) 14 12) 12 96) 12 8) 12 8).1) x0 6 (some ((gN (gN (gN (gN (gN (gN G 12 12) 12 12) 14 12) 12 96) 12 8) 12 8).1))) (gN (gN (gN (gN (gN (gN (gN G 12 12) 12 12) 14 12) 12 96) 12 8) 12 8) 12 6).1) x0 7 (some ((gN (gN (gN (gN (gN (gN (gN G 12 12) 12 12) 14 12) 12 96) 12 8) 12 8) 12 6).1))) (gN (gN (gN (gN (gN (gN (gN (gN G 12 12) 12 12) 14 12) 12 96) 12 8) 12 8) 12 6) 12 6).1) x0 8 (some ((gN (gN (gN (gN (gN (gN (gN (gN G 12 12) 12 12) 14 12) 12 96) 12 8) 12 8) 12 6) 12 6).1))) (gN (gN (gN (gN (gN (gN (gN (gN (gN G 12 12) 12 12) 14 12) 12 96) 12 8) 12 8) 12 6) 12 6) 12 6).1) x0 9 (some ((gN (gN (gN (gN (gN (gN (gN (gN (gN G 12 12) 12 12) 14 12) 12 96) 12 8) 12 8) 12 6) 12 6) 12 6).1))) (gN (gN (gN (gN (gN (gN (gN (gN (gN (gN G 12 12) 12 12) 14 12) 12 96) 12 8) 12 8) 12 6) 12 6) 12 6) 12 12).1) x0 10 (some ((gN (gN (gN (gN (gN (gN (gN (gN (gN (gN G 12 12) 12 12) 14 12) 12 96) 12 8) 12 8) 12 6) 12 6) 12 6) 12 12).1)))
theorem gle_X1_init {G G9 : GG} {x0 : Nat} {m m9 : MM} (hM : K_X1_init G x0 m = some (G9, m9)) : Gle G G9 := by
  unfold K_X1_init at hM
  cases hM
  exact (Gle_up (Gle_up (Gle_up (Gle_up (Gle_up (Gle_up (Gle_up (Gle_up (Gle_up (Gle_up (Gle_up Gle_rf)))))))))))
theorem cy_X1_init : Cy yX1_init cX1_init 1 none 0 := ⟨cd_yX1_init, ii_X1, by decide, by decide, by decide +kernel⟩
set_option maxRecDepth 100000 in
set_option maxHeartbeats 4000000 in
theorem c_X1_init {l : Launch} {E : EE} {G G9 : GG} {x0 : Nat} {m m9 : MM} (hM : K_X1_init G x0 m = some (G9, m9)) (tx0 : Ty E G x0 1) (hb0 : E.2.2.1 ≤ G.1) : Mc l E yX1_init cX1_init 1 none rmX1_init [.ref x0] G m (cQv E G9 m9) := by
  refine M_of (by decide) (Nat.le_of_ble_eq_true rfl) (fun p e s mth below meth c C h ls hl => ?_)
  unfold K_X1_init at hM
  refine lv_aload_n C.1 C.2.1 dX1_init_0 rfl (lv_at hl 0 rfl) ?_
  refine h_obj C hl.1 ml_X1_3 (by decide) (by decide) dX1_init_1 ?_
  refine lv_aload_n C.1 C.2.1 dX1_init_4 rfl (lv_at hl 0 rfl) ?_
  refine lv_bipush (v := 12) C.1 C.2.1 dX1_init_5 (by decide) ?_
  refine h_newa C h 12 (by decide) (by decide) rfl ac_int 12 (by decide) (by decide) (by decide) (by decide) (by decide) dX1_init_7 (fun H locs h => ?_)
  have C0 := C
  have C := Cx_le (Gle_up (κ := 12) (n := 12) Gle_rf) C
  have tn_1 : Ty E (gN G 12 12) G.1 12 := Ty_new C0.2.2.2.2.2.2.2.2.2.1
  refine st_some ?_
  refine pt_1_0 C h rfl rfl (fun b hb => by cases hb; exact tn_1) (Ty_le (Gle_up Gle_rf) tx0) fl_X1_9 dX1_init_9 (fun H locs h => ?_)
  refine lv_aload_n C.1 C.2.1 dX1_init_12 rfl (lv_at hl 0 rfl) ?_
  refine lv_bipush (v := 12) C.1 C.2.1 dX1_init_13 (by decide) ?_
  refine h_newa C h 12 (by decide) (by decide) rfl ac_int 12 (by decide) (by decide) (by decide) (by decide) (by decide) dX1_init_15 (fun H locs h => ?_)
  have C0 := C
  have C := Cx_le (Gle_up (κ := 12) (n := 12) Gle_rf) C
  have tn_2 : Ty E (gN (gN G 12 12) 12 12) (gN G 12 12).1 12 := Ty_new C0.2.2.2.2.2.2.2.2.2.1
  refine st_some ?_
  refine pt_1_1 C h rfl rfl (fun b hb => by cases hb; exact tn_2) (Ty_le (Gle_up Gle_rf) (Ty_le (Gle_up Gle_rf) tx0)) fl_X1_15 dX1_init_17 (fun H locs h => ?_)
  refine lv_aload_n C.1 C.2.1 dX1_init_20 rfl (lv_at hl 0 rfl) ?_
  refine lv_bipush (v := 12) C.1 C.2.1 dX1_init_21 (by decide) ?_
  refine h_newa C h 14 (by decide) (by decide) rfl ac_boolean 12 (by decide) (by decide) (by decide) (by decide) (by decide) dX1_init_23 (fun H locs h => ?_)
  have C0 := C
  have C := Cx_le (Gle_up (κ := 14) (n := 12) Gle_rf) C
  have tn_3 : Ty E (gN (gN (gN G 12 12) 12 12) 14 12) (gN (gN G 12 12) 12 12).1 14 := Ty_new C0.2.2.2.2.2.2.2.2.2.1
  refine st_some ?_
  refine pt_1_2 C h rfl rfl (fun b hb => by cases hb; exact tn_3) (Ty_le (Gle_up Gle_rf) (Ty_le (Gle_up Gle_rf) (Ty_le (Gle_up Gle_rf) tx0))) fl_X1_18 dX1_init_25 (fun H locs h => ?_)
  refine lv_aload_n C.1 C.2.1 dX1_init_28 rfl (lv_at hl 0 rfl) ?_
  refine lv_bipush (v := 96) C.1 C.2.1 dX1_init_29 (by decide) ?_
  refine h_newa C h 12 (by decide) (by decide) rfl ac_int 96 (by decide) (by decide) (by decide) (by decide) (by decide) dX1_init_31 (fun H locs h => ?_)
  have C0 := C
  have C := Cx_le (Gle_up (κ := 12) (n := 96) Gle_rf) C
  have tn_4 : Ty E (gN (gN (gN (gN G 12 12) 12 12) 14 12) 12 96) (gN (gN (gN G 12 12) 12 12) 14 12).1 12 := Ty_new C0.2.2.2.2.2.2.2.2.2.1
  refine st_some ?_
  refine pt_1_3 C h rfl rfl (fun b hb => by cases hb; exact tn_4) (Ty_le (Gle_up Gle_rf) (Ty_le (Gle_up Gle_rf) (Ty_le (Gle_up Gle_rf) (Ty_le (Gle_up Gle_rf) tx0)))) fl_X1_22 dX1_init_33 (fun H locs h => ?_)
  refine lv_aload_n C.1 C.2.1 dX1_init_36 rfl (lv_at hl 0 rfl) ?_
  refine lv_bipush (v := 8) C.1 C.2.1 dX1_init_37 (by decide) ?_
  refine h_newa C h 12 (by decide) (by decide) rfl ac_int 8 (by decide) (by decide) (by decide) (by decide) (by decide) dX1_init_39 (fun H locs h => ?_)
  have C0 := C
  have C := Cx_le (Gle_up (κ := 12) (n := 8) Gle_rf) C
  have tn_5 : Ty E (gN (gN (gN (gN (gN G 12 12) 12 12) 14 12) 12 96) 12 8) (gN (gN (gN (gN G 12 12) 12 12) 14 12) 12 96).1 12 := Ty_new C0.2.2.2.2.2.2.2.2.2.1
  refine st_some ?_
  refine pt_1_4 C h rfl rfl (fun b hb => by cases hb; exact tn_5) (Ty_le (Gle_up Gle_rf) (Ty_le (Gle_up Gle_rf) (Ty_le (Gle_up Gle_rf) (Ty_le (Gle_up Gle_rf) (Ty_le (Gle_up Gle_rf) tx0))))) fl_X1_25 dX1_init_41 (fun H locs h => ?_)
  refine lv_aload_n C.1 C.2.1 dX1_init_44 rfl (lv_at hl 0 rfl) ?_
  refine lv_bipush (v := 8) C.1 C.2.1 dX1_init_45 (by decide) ?_
  refine h_newa C h 12 (by decide) (by decide) rfl ac_int 8 (by decide) (by decide) (by decide) (by decide) (by decide) dX1_init_47 (fun H locs h => ?_)
  have C0 := C
  have C := Cx_le (Gle_up (κ := 12) (n := 8) Gle_rf) C
  have tn_6 : Ty E (gN (gN (gN (gN (gN (gN G 12 12) 12 12) 14 12) 12 96) 12 8) 12 8) (gN (gN (gN (gN (gN G 12 12) 12 12) 14 12) 12 96) 12 8).1 12 := Ty_new C0.2.2.2.2.2.2.2.2.2.1
  refine st_some ?_
  refine pt_1_5 C h rfl rfl (fun b hb => by cases hb; exact tn_6) (Ty_le (Gle_up Gle_rf) (Ty_le (Gle_up Gle_rf) (Ty_le (Gle_up Gle_rf) (Ty_le (Gle_up Gle_rf) (Ty_le (Gle_up Gle_rf) (Ty_le (Gle_up Gle_rf) tx0)))))) fl_X1_28 dX1_init_49 (fun H locs h => ?_)
  refine lv_aload_n C.1 C.2.1 dX1_init_52 rfl (lv_at hl 0 rfl) ?_
  refine lv_bipush (v := 6) C.1 C.2.1 dX1_init_53 (by decide) ?_
  refine h_newa C h 12 (by decide) (by decide) rfl ac_int 6 (by decide) (by decide) (by decide) (by decide) (by decide) dX1_init_55 (fun H locs h => ?_)
  have C0 := C
  have C := Cx_le (Gle_up (κ := 12) (n := 6) Gle_rf) C
  have tn_7 : Ty E (gN (gN (gN (gN (gN (gN (gN G 12 12) 12 12) 14 12) 12 96) 12 8) 12 8) 12 6) (gN (gN (gN (gN (gN (gN G 12 12) 12 12) 14 12) 12 96) 12 8) 12 8).1 12 := Ty_new C0.2.2.2.2.2.2.2.2.2.1
  refine st_some ?_
  refine pt_1_6 C h rfl rfl (fun b hb => by cases hb; exact tn_7) (Ty_le (Gle_up Gle_rf) (Ty_le (Gle_up Gle_rf) (Ty_le (Gle_up Gle_rf) (Ty_le (Gle_up Gle_rf) (Ty_le (Gle_up Gle_rf) (Ty_le (Gle_up Gle_rf) (Ty_le (Gle_up Gle_rf) tx0))))))) fl_X1_31 dX1_init_57 (fun H locs h => ?_)
  refine lv_aload_n C.1 C.2.1 dX1_init_60 rfl (lv_at hl 0 rfl) ?_
  refine lv_bipush (v := 6) C.1 C.2.1 dX1_init_61 (by decide) ?_
  refine h_newa C h 12 (by decide) (by decide) rfl ac_int 6 (by decide) (by decide) (by decide) (by decide) (by decide) dX1_init_63 (fun H locs h => ?_)
  have C0 := C
  have C := Cx_le (Gle_up (κ := 12) (n := 6) Gle_rf) C
  have tn_8 : Ty E (gN (gN (gN (gN (gN (gN (gN (gN G 12 12) 12 12) 14 12) 12 96) 12 8) 12 8) 12 6) 12 6) (gN (gN (gN (gN (gN (gN (gN G 12 12) 12 12) 14 12) 12 96) 12 8) 12 8) 12 6).1 12 := Ty_new C0.2.2.2.2.2.2.2.2.2.1
  refine st_some ?_
  refine pt_1_7 C h rfl rfl (fun b hb => by cases hb; exact tn_8) (Ty_le (Gle_up Gle_rf) (Ty_le (Gle_up Gle_rf) (Ty_le (Gle_up Gle_rf) (Ty_le (Gle_up Gle_rf) (Ty_le (Gle_up Gle_rf) (Ty_le (Gle_up Gle_rf) (Ty_le (Gle_up Gle_rf) (Ty_le (Gle_up Gle_rf) tx0)))))))) fl_X1_34 dX1_init_65 (fun H locs h => ?_)
  refine lv_aload_n C.1 C.2.1 dX1_init_68 rfl (lv_at hl 0 rfl) ?_
  refine lv_bipush (v := 6) C.1 C.2.1 dX1_init_69 (by decide) ?_
  refine h_newa C h 12 (by decide) (by decide) rfl ac_int 6 (by decide) (by decide) (by decide) (by decide) (by decide) dX1_init_71 (fun H locs h => ?_)
  have C0 := C
  have C := Cx_le (Gle_up (κ := 12) (n := 6) Gle_rf) C
  have tn_9 : Ty E (gN (gN (gN (gN (gN (gN (gN (gN (gN G 12 12) 12 12) 14 12) 12 96) 12 8) 12 8) 12 6) 12 6) 12 6) (gN (gN (gN (gN (gN (gN (gN (gN G 12 12) 12 12) 14 12) 12 96) 12 8) 12 8) 12 6) 12 6).1 12 := Ty_new C0.2.2.2.2.2.2.2.2.2.1
  refine st_some ?_
  refine pt_1_8 C h rfl rfl (fun b hb => by cases hb; exact tn_9) (Ty_le (Gle_up Gle_rf) (Ty_le (Gle_up Gle_rf) (Ty_le (Gle_up Gle_rf) (Ty_le (Gle_up Gle_rf) (Ty_le (Gle_up Gle_rf) (Ty_le (Gle_up Gle_rf) (Ty_le (Gle_up Gle_rf) (Ty_le (Gle_up Gle_rf) (Ty_le (Gle_up Gle_rf) tx0))))))))) fl_X1_37 dX1_init_73 (fun H locs h => ?_)
  refine lv_aload_n C.1 C.2.1 dX1_init_76 rfl (lv_at hl 0 rfl) ?_
  refine lv_bipush (v := 12) C.1 C.2.1 dX1_init_77 (by decide) ?_
  refine h_newa C h 12 (by decide) (by decide) rfl ac_int 12 (by decide) (by decide) (by decide) (by decide) (by decide) dX1_init_79 (fun H locs h => ?_)
  have C0 := C
  have C := Cx_le (Gle_up (κ := 12) (n := 12) Gle_rf) C
  have tn_10 : Ty E (gN (gN (gN (gN (gN (gN (gN (gN (gN (gN G 12 12) 12 12) 14 12) 12 96) 12 8) 12 8) 12 6) 12 6) 12 6) 12 12) (gN (gN (gN (gN (gN (gN (gN (gN (gN G 12 12) 12 12) 14 12) 12 96) 12 8) 12 8) 12 6) 12 6) 12 6).1 12 := Ty_new C0.2.2.2.2.2.2.2.2.2.1
  refine st_some ?_
  refine pt_1_9 C h rfl rfl (fun b hb => by cases hb; exact tn_10) (Ty_le (Gle_up Gle_rf) (Ty_le (Gle_up Gle_rf) (Ty_le (Gle_up Gle_rf) (Ty_le (Gle_up Gle_rf) (Ty_le (Gle_up Gle_rf) (Ty_le (Gle_up Gle_rf) (Ty_le (Gle_up Gle_rf) (Ty_le (Gle_up Gle_rf) (Ty_le (Gle_up Gle_rf) (Ty_le (Gle_up Gle_rf) tx0)))))))))) fl_X1_40 dX1_init_81 (fun H locs h => ?_)
  refine lv_aload_n C.1 C.2.1 dX1_init_84 rfl (lv_at hl 0 rfl) ?_
  refine lv_bipush (v := 26) C.1 C.2.1 dX1_init_85 (by decide) ?_
  refine h_newa C h 12 (by decide) (by decide) rfl ac_int 26 (by decide) (by decide) (by decide) (by decide) (by decide) dX1_init_87 (fun H locs h => ?_)
  have C0 := C
  have C := Cx_le (Gle_up (κ := 12) (n := 26) Gle_rf) C
  have tn_11 : Ty E (gN (gN (gN (gN (gN (gN (gN (gN (gN (gN (gN G 12 12) 12 12) 14 12) 12 96) 12 8) 12 8) 12 6) 12 6) 12 6) 12 12) 12 26) (gN (gN (gN (gN (gN (gN (gN (gN (gN (gN G 12 12) 12 12) 14 12) 12 96) 12 8) 12 8) 12 6) 12 6) 12 6) 12 12).1 12 := Ty_new C0.2.2.2.2.2.2.2.2.2.1
  refine st_some ?_
  refine pt_1_10 C h rfl rfl (fun b hb => by cases hb; exact tn_11) (Ty_le (Gle_up Gle_rf) (Ty_le (Gle_up Gle_rf) (Ty_le (Gle_up Gle_rf) (Ty_le (Gle_up Gle_rf) (Ty_le (Gle_up Gle_rf) (Ty_le (Gle_up Gle_rf) (Ty_le (Gle_up Gle_rf) (Ty_le (Gle_up Gle_rf) (Ty_le (Gle_up Gle_rf) (Ty_le (Gle_up Gle_rf) (Ty_le (Gle_up Gle_rf) tx0))))))))))) fl_X1_43 dX1_init_89 (fun H locs h => ?_)
  cases hM
  exact h_vret C h dX1_init_92
abbrev rmX2_init : Room := { frames := 1, cells := 1, slots := 26, locals := 30 }
def K_X2_init (G : GG) (x0 : Nat) (m : MM) : Option (GG × MM) :=
  some ((gN G 12 26), sR (clr m G.1) x0 0 (some G.1))
theorem gle_X2_init {G G9 : GG} {x0 : Nat} {m m9 : MM} (hM : K_X2_init G x0 m = some (G9, m9)) : Gle G G9 := by
  unfold K_X2_init at hM
  cases hM
  exact (Gle_up Gle_rf)
theorem cy_X2_init : Cy yX2_init cX2_init 1 none 0 := ⟨cd_yX2_init, ii_X2, by decide, by decide, by decide +kernel⟩
set_option maxRecDepth 100000 in
set_option maxHeartbeats 4000000 in
theorem c_X2_init {l : Launch} {E : EE} {G G9 : GG} {x0 : Nat} {m m9 : MM} (hM : K_X2_init G x0 m = some (G9, m9)) (tx0 : Ty E G x0 2) (hb0 : E.2.2.1 ≤ G.1) : Mc l E yX2_init cX2_init 1 none rmX2_init [.ref x0] G m (cQv E G9 m9) := by
  refine M_of (by decide) (Nat.le_of_ble_eq_true rfl) (fun p e s mth below meth c C h ls hl => ?_)
  unfold K_X2_init at hM
  refine lv_aload_n C.1 C.2.1 dX2_init_0 rfl (lv_at hl 0 rfl) ?_
  refine h_obj C hl.1 ml_X2_3 (by decide) (by decide) dX2_init_1 ?_
  refine lv_aload_n C.1 C.2.1 dX2_init_4 rfl (lv_at hl 0 rfl) ?_
  refine lv_bipush (v := 26) C.1 C.2.1 dX2_init_5 (by decide) ?_
  refine h_newa C h 12 (by decide) (by decide) rfl ac_int 26 (by decide) (by decide) (by decide) (by decide) (by decide) dX2_init_7 (fun H locs h => ?_)
  have C0 := C
  have C := Cx_le (Gle_up (κ := 12) (n := 26) Gle_rf) C
  have tn_1 : Ty E (gN G 12 26) G.1 12 := Ty_new C0.2.2.2.2.2.2.2.2.2.1
  refine st_some ?_
  refine pt_2_0 C h rfl rfl (fun b hb => by cases hb; exact tn_1) (Ty_le (Gle_up Gle_rf) tx0) fl_X2_9 dX2_init_9 (fun H locs h => ?_)
  cases hM
  exact h_vret C h dX2_init_12
abbrev rmX3_init : Room := { frames := 1, cells := 0, slots := 0, locals := 30 }
def K_X3_init (G : GG) (x0 : Nat) (m : MM) : Option (GG × MM) :=
  some (G, m)
theorem gle_X3_init {G G9 : GG} {x0 : Nat} {m m9 : MM} (hM : K_X3_init G x0 m = some (G9, m9)) : Gle G G9 := by
  unfold K_X3_init at hM
  cases hM
  exact Gle_rf
theorem cy_X3_init : Cy yX3_init cX3_init 1 none 0 := ⟨cd_yX3_init, ii_X3, by decide, by decide, by decide +kernel⟩
set_option maxRecDepth 100000 in
set_option maxHeartbeats 4000000 in
theorem c_X3_init {l : Launch} {E : EE} {G G9 : GG} {x0 : Nat} {m m9 : MM} (hM : K_X3_init G x0 m = some (G9, m9)) (tx0 : Ty E G x0 3) (hb0 : E.2.2.1 ≤ G.1) : Mc l E yX3_init cX3_init 1 none rmX3_init [.ref x0] G m (cQv E G9 m9) := by
  refine M_of (by decide) (Nat.le_of_ble_eq_true rfl) (fun p e s mth below meth c C h ls hl => ?_)
  unfold K_X3_init at hM
  refine lv_aload_n C.1 C.2.1 dX3_init_0 rfl (lv_at hl 0 rfl) ?_
  refine h_obj C hl.1 ml_X3_3 (by decide) (by decide) dX3_init_1 ?_
  cases hM
  exact h_vret C h dX3_init_4
abbrev rmX6_init : Room := { frames := 2, cells := 99, slots := 3800, locals := 50 }
def K_X6_init (G : GG) (x0 : Nat) (m : MM) : Option (GG × MM) :=
  nb (gR (sR (clr (sR (clr (sR (clr m G.1) x0 0 (some G.1)) (gN G 16 8).1) x0 1 (some ((gN G 16 8).1))) (gN (gN G 16 8) 12 8).1) x0 2 (some ((gN (gN G 16 8) 12 8).1))) x0 0) fun b_4 =>
  if (nI ((gN (gN (gN G 16 8) 12 8) 15 2000).2.2 b_4)) ≤ 0 then none else
  nb (gR (sR (clr (sR (clr (sR (clr m G.1) x0 0 (some G.1)) (gN G 16 8).1) x0 1 (some ((gN G 16 8).1))) (gN (gN G 16 8) 12 8).1) x0 2 (some ((gN (gN G 16 8) 12 8).1))) x0 0) fun b_5 =>
  bg (K_X1_init (gN (gN (gN (gN G 16 8) 12 8) 15 2000) 1 0) ((gN (gN (gN G 16 8) 12 8) 15 2000).1) (clr (sR (clr (sR (clr (sR (clr m G.1) x0 0 (some G.1)) (gN G 16 8).1) x0 1 (some ((gN G 16 8).1))) (gN (gN G 16 8) 12 8).1) x0 2 (some ((gN (gN G 16 8) 12 8).1))) (gN (gN (gN G 16 8) 12 8) 15 2000).1)) fun g_7 m_8 =>
  ib 0 (g_7.2.2 b_5) <|
  nb (gR (sR m_8 b_5 ((0 : Int32).toNatClampNeg) (some ((gN (gN (gN G 16 8) 12 8) 15 2000).1))) x0 0) fun b_9 =>
  if (nI (g_7.2.2 b_9)) ≤ 1 then none else
  nb (gR (sR m_8 b_5 ((0 : Int32).toNatClampNeg) (some ((gN (gN (gN G 16 8) 12 8) 15 2000).1))) x0 0) fun b_10 =>
  bg (K_X1_init (gN g_7 1 0) g_7.1 (clr (sR m_8 b_5 ((0 : Int32).toNatClampNeg) (some ((gN (gN (gN G 16 8) 12 8) 15 2000).1))) g_7.1)) fun g_12 m_13 =>
  ib 1 (g_12.2.2 b_10) <|
  nb (gR (sR m_13 b_10 ((1 : Int32).toNatClampNeg) (some g_7.1)) x0 0) fun b_14 =>
  if (nI (g_12.2.2 b_14)) ≤ 2 then none else
  nb (gR (sR m_13 b_10 ((1 : Int32).toNatClampNeg) (some g_7.1)) x0 0) fun b_15 =>
  bg (K_X1_init (gN g_12 1 0) g_12.1 (clr (sR m_13 b_10 ((1 : Int32).toNatClampNeg) (some g_7.1)) g_12.1)) fun g_17 m_18 =>
  ib 2 (g_17.2.2 b_15) <|
  nb (gR (sR m_18 b_15 ((2 : Int32).toNatClampNeg) (some g_12.1)) x0 0) fun b_19 =>
  if (nI (g_17.2.2 b_19)) ≤ 3 then none else
  nb (gR (sR m_18 b_15 ((2 : Int32).toNatClampNeg) (some g_12.1)) x0 0) fun b_20 =>
  bg (K_X1_init (gN g_17 1 0) g_17.1 (clr (sR m_18 b_15 ((2 : Int32).toNatClampNeg) (some g_12.1)) g_17.1)) fun g_22 m_23 =>
  ib 3 (g_22.2.2 b_20) <|
  nb (gR (sR m_23 b_20 ((3 : Int32).toNatClampNeg) (some g_17.1)) x0 0) fun b_24 =>
  if (nI (g_22.2.2 b_24)) ≤ 4 then none else
  nb (gR (sR m_23 b_20 ((3 : Int32).toNatClampNeg) (some g_17.1)) x0 0) fun b_25 =>
  bg (K_X1_init (gN g_22 1 0) g_22.1 (clr (sR m_23 b_20 ((3 : Int32).toNatClampNeg) (some g_17.1)) g_22.1)) fun g_27 m_28 =>
  ib 4 (g_27.2.2 b_25) <|
  nb (gR (sR m_28 b_25 ((4 : Int32).toNatClampNeg) (some g_22.1)) x0 0) fun b_29 =>
  if (nI (g_27.2.2 b_29)) ≤ 5 then none else
  nb (gR (sR m_28 b_25 ((4 : Int32).toNatClampNeg) (some g_22.1)) x0 0) fun b_30 =>
  bg (K_X1_init (gN g_27 1 0) g_27.1 (clr (sR m_28 b_25 ((4 : Int32).toNatClampNeg) (some g_22.1)) g_27.1)) fun g_32 m_33 =>
  ib 5 (g_32.2.2 b_30) <|
  nb (gR (sR m_33 b_30 ((5 : Int32).toNatClampNeg) (some g_27.1)) x0 0) fun b_34 =>
  if (nI (g_32.2.2 b_34)) ≤ 6 then none else
  nb (gR (sR m_33 b_30 ((5 : Int32).toNatClampNeg) (some g_27.1)) x0 0) fun b_35 =>
  bg (K_X1_init (gN g_32 1 0) g_32.1 (clr (sR m_33 b_30 ((5 : Int32).toNatClampNeg) (some g_27.1)) g_32.1)) fun g_37 m_38 =>
  ib 6 (g_37.2.2 b_35) <|
  nb (gR (sR m_38 b_35 ((6 : Int32).toNatClampNeg) (some g_32.1)) x0 0) fun b_39 =>
  if (nI (g_37.2.2 b_39)) ≤ 7 then none else
  nb (gR (sR m_38 b_35 ((6 : Int32).toNatClampNeg) (some g_32.1)) x0 0) fun b_40 =>
  bg (K_X1_init (gN g_37 1 0) g_37.1 (clr (sR m_38 b_35 ((6 : Int32).toNatClampNeg) (some g_32.1)) g_37.1)) fun g_42 m_43 =>
  ib 7 (g_42.2.2 b_40) <|
  nb (gR (sR m_43 b_40 ((7 : Int32).toNatClampNeg) (some g_37.1)) x0 0) fun b_44 =>
  if ¬ (nI (g_42.2.2 b_44)) ≤ 8 then none else
  some (g_42, sR m_43 b_40 ((7 : Int32).toNatClampNeg) (some g_37.1))
theorem gle_X6_init {G G9 : GG} {x0 : Nat} {m m9 : MM} (hM : K_X6_init G x0 m = some (G9, m9)) : Gle G G9 := by
  unfold K_X6_init at hM
  obtain ⟨b_4, hb_4, hM⟩ := nb_some hM
  obtain ⟨q, hM⟩ := itn_f hM
  obtain ⟨b_5, hb_5, hM⟩ := nb_some hM
  obtain ⟨g_7, m_8, hc_7, hM⟩ := bg_some hM
  obtain ⟨hi, hM⟩ := ib_some hM
  obtain ⟨b_9, hb_9, hM⟩ := nb_some hM
  obtain ⟨q, hM⟩ := itn_f hM
  obtain ⟨b_10, hb_10, hM⟩ := nb_some hM
  obtain ⟨g_12, m_13, hc_12, hM⟩ := bg_some hM
  obtain ⟨hi, hM⟩ := ib_some hM
  obtain ⟨b_14, hb_14, hM⟩ := nb_some hM
  obtain ⟨q, hM⟩ := itn_f hM
  obtain ⟨b_15, hb_15, hM⟩ := nb_some hM
  obtain ⟨g_17, m_18, hc_17, hM⟩ := bg_some hM
  obtain ⟨hi, hM⟩ := ib_some hM
  obtain ⟨b_19, hb_19, hM⟩ := nb_some hM
  obtain ⟨q, hM⟩ := itn_f hM
  obtain ⟨b_20, hb_20, hM⟩ := nb_some hM
  obtain ⟨g_22, m_23, hc_22, hM⟩ := bg_some hM
  obtain ⟨hi, hM⟩ := ib_some hM
  obtain ⟨b_24, hb_24, hM⟩ := nb_some hM
  obtain ⟨q, hM⟩ := itn_f hM
  obtain ⟨b_25, hb_25, hM⟩ := nb_some hM
  obtain ⟨g_27, m_28, hc_27, hM⟩ := bg_some hM
  obtain ⟨hi, hM⟩ := ib_some hM
  obtain ⟨b_29, hb_29, hM⟩ := nb_some hM
  obtain ⟨q, hM⟩ := itn_f hM
  obtain ⟨b_30, hb_30, hM⟩ := nb_some hM
  obtain ⟨g_32, m_33, hc_32, hM⟩ := bg_some hM
  obtain ⟨hi, hM⟩ := ib_some hM
  obtain ⟨b_34, hb_34, hM⟩ := nb_some hM
  obtain ⟨q, hM⟩ := itn_f hM
  obtain ⟨b_35, hb_35, hM⟩ := nb_some hM
  obtain ⟨g_37, m_38, hc_37, hM⟩ := bg_some hM
  obtain ⟨hi, hM⟩ := ib_some hM
  obtain ⟨b_39, hb_39, hM⟩ := nb_some hM
  obtain ⟨q, hM⟩ := itn_f hM
  obtain ⟨b_40, hb_40, hM⟩ := nb_some hM
  obtain ⟨g_42, m_43, hc_42, hM⟩ := bg_some hM
  obtain ⟨hi, hM⟩ := ib_some hM
  obtain ⟨b_44, hb_44, hM⟩ := nb_some hM
  obtain ⟨q, hM⟩ := itn_f hM
  cases hM
  exact (Gle_tr (Gle_up (Gle_tr (Gle_up (Gle_tr (Gle_up (Gle_tr (Gle_up (Gle_tr (Gle_up (Gle_tr (Gle_up (Gle_tr (Gle_up (Gle_tr (Gle_up (Gle_up (Gle_up (Gle_up Gle_rf)))) (gle_X1_init hc_7))) (gle_X1_init hc_12))) (gle_X1_init hc_17))) (gle_X1_init hc_22))) (gle_X1_init hc_27))) (gle_X1_init hc_32))) (gle_X1_init hc_37))) (gle_X1_init hc_42))
theorem cy_X6_init : Cy yX6_init cX6_init 2 none 0 := ⟨cd_yX6_init, ii_X6, by decide, by decide, by decide +kernel⟩
set_option maxRecDepth 100000 in
set_option maxHeartbeats 4000000 in
theorem c_X6_init {l : Launch} {E : EE} {G G9 : GG} {x0 : Nat} {m m9 : MM} (hM : K_X6_init G x0 m = some (G9, m9)) (tx0 : Ty E G x0 6) (hb0 : E.2.2.1 ≤ G.1) : Mc l E yX6_init cX6_init 2 none rmX6_init [.ref x0] G m (cQv E G9 m9) := by
  refine M_of (by decide) (Nat.le_of_ble_eq_true rfl) (fun p e s mth below meth c C h ls hl => ?_)
  unfold K_X6_init at hM
  refine lv_aload_n C.1 C.2.1 dX6_init_0 rfl (lv_at hl 0 rfl) ?_
  refine h_obj C hl.1 ml_X6_3 (by decide) (by decide) dX6_init_1 ?_
  refine lv_aload_n C.1 C.2.1 dX6_init_4 rfl (lv_at hl 0 rfl) ?_
  refine lv_bipush (v := 8) C.1 C.2.1 dX6_init_5 (by decide) ?_
  refine h_newq C h cl_X6_9 8 (by decide) (by decide) (by decide) (by decide) (by decide) dX6_init_7 (fun H locs h => ?_)
  have C0 := C
  have C := Cx_le (Gle_up (κ := 16) (n := 8) Gle_rf) C
  have tn_1 : Ty E (gN G 16 8) G.1 16 := Ty_new C0.2.2.2.2.2.2.2.2.2.1
  refine st_some ?_
  refine pt_6_0 C h rfl rfl (fun b hb => by cases hb; exact tn_1) (Ty_le (Gle_up Gle_rf) tx0) fl_X6_11 dX6_init_10 (fun H locs h => ?_)
  refine lv_aload_n C.1 C.2.1 dX6_init_13 rfl (lv_at hl 0 rfl) ?_
  refine lv_bipush (v := 8) C.1 C.2.1 dX6_init_14 (by decide) ?_
  refine h_newa C h 12 (by decide) (by decide) rfl ac_int 8 (by decide) (by decide) (by decide) (by decide) (by decide) dX6_init_16 (fun H locs h => ?_)
  have C0 := C
  have C := Cx_le (Gle_up (κ := 12) (n := 8) Gle_rf) C
  have tn_2 : Ty E (gN (gN G 16 8) 12 8) (gN G 16 8).1 12 := Ty_new C0.2.2.2.2.2.2.2.2.2.1
  refine st_some ?_
  refine pt_6_1 C h rfl rfl (fun b hb => by cases hb; exact tn_2) (Ty_le (Gle_up Gle_rf) (Ty_le (Gle_up Gle_rf) tx0)) fl_X6_17 dX6_init_18 (fun H locs h => ?_)
  refine lv_aload_n C.1 C.2.1 dX6_init_21 rfl (lv_at hl 0 rfl) ?_
  refine lv_sipush (v := 2000) C.1 C.2.1 dX6_init_22 (by decide) ?_
  refine h_newa C h 15 (by decide) (by decide) rfl ac_long 2000 (by decide) (by decide) (by decide) (by decide) (by decide) dX6_init_25 (fun H locs h => ?_)
  have C0 := C
  have C := Cx_le (Gle_up (κ := 15) (n := 2000) Gle_rf) C
  have tn_3 : Ty E (gN (gN (gN G 16 8) 12 8) 15 2000) (gN (gN G 16 8) 12 8).1 15 := Ty_new C0.2.2.2.2.2.2.2.2.2.1
  refine st_some ?_
  refine pt_6_2 C h rfl rfl (fun b hb => by cases hb; exact tn_3) (Ty_le (Gle_up Gle_rf) (Ty_le (Gle_up Gle_rf) (Ty_le (Gle_up Gle_rf) tx0))) fl_X6_21 dX6_init_27 (fun H locs h => ?_)
  refine lv_iconst (v := 0) C.1 C.2.1 dX6_init_30 (by decide) ?_
  refine lv_istore_n (lv' := [(1, .int 0), (0, .ref x0)]) C.1 C.2.1 dX6_init_31 rfl hl (by decide) rfl (fun ls hl => ?_)
  refine lv_iload_n C.1 C.2.1 dX6_init_32 rfl (lv_at hl 0 rfl) ?_
  refine lv_aload_n C.1 C.2.1 dX6_init_33 rfl (lv_at hl 1 rfl) ?_
  refine gt_6_0 C h (Ty_le (Gle_up Gle_rf) (Ty_le (Gle_up Gle_rf) (Ty_le (Gle_up Gle_rf) tx0))) fl_X6_11 dX6_init_34 ?_
  obtain ⟨b_4, hb_4, hM⟩ := nb_some hM
  have tb_4 : Ty E (gN (gN (gN G 16 8) 12 8) 15 2000) b_4 16 := tyf h (Ty_le (Gle_up Gle_rf) (Ty_le (Gle_up Gle_rf) (Ty_le (Gle_up Gle_rf) tx0))) hb_4
  refine st_ref hb_4 ?_
  refine h_alen C h 16 (by decide) (by decide) tb_4 dX6_init_37 ?_
  refine lv_icmp_ge (tgt := 60) C.1 C.2.1 dX6_init_38 (by decide) (fun q => ?_) (fun q => ?_)
  · have hM := ite_t q hM
    cases hM
  have hM := ite_f q hM
  refine lv_aload_n C.1 C.2.1 dX6_init_41 rfl (lv_at hl 1 rfl) ?_
  refine gt_6_0 C h (Ty_le (Gle_up Gle_rf) (Ty_le (Gle_up Gle_rf) (Ty_le (Gle_up Gle_rf) tx0))) fl_X6_11 dX6_init_42 ?_
  obtain ⟨b_5, hb_5, hM⟩ := nb_some hM
  have tb_5 : Ty E (gN (gN (gN G 16 8) 12 8) 15 2000) b_5 16 := tyf h (Ty_le (Gle_up Gle_rf) (Ty_le (Gle_up Gle_rf) (Ty_le (Gle_up Gle_rf) tx0))) hb_5
  refine st_ref hb_5 ?_
  refine lv_iload_n C.1 C.2.1 dX6_init_45 rfl (lv_at hl 0 rfl) ?_
  refine h_new C h 1 rfl (by decide) rfl iw_X1 tyX1_ok (by decide +kernel) cl_X6_9 is_X1 ii_X1 (by decide) (by decide) dX6_init_46 (fun H locs h => ?_)
  have C0 := C
  have C := Cx_le (Gle_up (κ := 1) (n := 0) Gle_rf) C
  have tn_6 : Ty E (gN (gN (gN (gN G 16 8) 12 8) 15 2000) 1 0) (gN (gN (gN G 16 8) 12 8) 15 2000).1 1 := Ty_new C0.2.2.2.2.2.2.2.2.2.1
  refine lv_dup C.1 C.2.1 dX6_init_49 rfl ?_
  obtain ⟨g_7, m_8, hc_7, hM⟩ := bg_some hM
  refine h_callN (host := RX10) C h (rest := [.ref ((gN (gN (gN G 16 8) 12 8) 15 2000).1), .int 0, .ref b_5]) g_7 m_8 (c_X1_init hc_7 tn_6 C.2.2.2.2.2.2.2.2.2.1) rfl im_yX1_init cy_X1_init (by decide) ⟨by decide, by decide⟩ ⟨by decide, by decide⟩ hl.1 rfl (Nat.le_of_ble_eq_true rfl) dX6_init_50 (fun H locs h => ?_)
  have C := Cx_le (gle_X1_init hc_7) C
  obtain ⟨hi, hM⟩ := ib_some hM
  refine h_aast C h (Ty_le (gle_X1_init hc_7) (Ty_le (Gle_up Gle_rf) tb_5)) (Ty_le (gle_X1_init hc_7) tn_6) hi dX6_init_53 (fun H locs h => ?_)
  refine lv_iinc (v := 1) (lv' := [(1, .int 1), (0, .ref x0)]) C.1 C.2.1 dX6_init_54 hl (k := 0) rfl (by decide) (by decide) rfl (fun ls hl => ?_)
  refine lv_goto (tgt := 32) C.1 C.2.1 dX6_init_57 (by decide) ?_
  refine lv_iload_n C.1 C.2.1 dX6_init_32 rfl (lv_at hl 0 rfl) ?_
  refine lv_aload_n C.1 C.2.1 dX6_init_33 rfl (lv_at hl 1 rfl) ?_
  refine gt_6_0 C h (Ty_le (gle_X1_init hc_7) (Ty_le (Gle_up Gle_rf) (Ty_le (Gle_up Gle_rf) (Ty_le (Gle_up Gle_rf) (Ty_le (Gle_up Gle_rf) tx0))))) fl_X6_11 dX6_init_34 ?_
  obtain ⟨b_9, hb_9, hM⟩ := nb_some hM
  have tb_9 : Ty E g_7 b_9 16 := tyf h (Ty_le (gle_X1_init hc_7) (Ty_le (Gle_up Gle_rf) (Ty_le (Gle_up Gle_rf) (Ty_le (Gle_up Gle_rf) (Ty_le (Gle_up Gle_rf) tx0))))) hb_9
  refine st_ref hb_9 ?_
  refine h_alen C h 16 (by decide) (by decide) tb_9 dX6_init_37 ?_
  refine lv_icmp_ge (tgt := 60) C.1 C.2.1 dX6_init_38 (by decide) (fun q => ?_) (fun q => ?_)
  · have hM := ite_t q hM
    cases hM
  have hM := ite_f q hM
  refine lv_aload_n C.1 C.2.1 dX6_init_41 rfl (lv_at hl 1 rfl) ?_
  refine gt_6_0 C h (Ty_le (gle_X1_init hc_7) (Ty_le (Gle_up Gle_rf) (Ty_le (Gle_up Gle_rf) (Ty_le (Gle_up Gle_rf) (Ty_le (Gle_up Gle_rf) tx0))))) fl_X6_11 dX6_init_42 ?_
  obtain ⟨b_10, hb_10, hM⟩ := nb_some hM
  have tb_10 : Ty E g_7 b_10 16 := tyf h (Ty_le (gle_X1_init hc_7) (Ty_le (Gle_up Gle_rf) (Ty_le (Gle_up Gle_rf) (Ty_le (Gle_up Gle_rf) (Ty_le (Gle_up Gle_rf) tx0))))) hb_10
  refine st_ref hb_10 ?_
  refine lv_iload_n C.1 C.2.1 dX6_init_45 rfl (lv_at hl 0 rfl) ?_
  refine h_new C h 1 rfl (by decide) rfl iw_X1 tyX1_ok (by decide +kernel) cl_X6_9 is_X1 ii_X1 (by decide) (by decide) dX6_init_46 (fun H locs h => ?_)
  have C0 := C
  have C := Cx_le (Gle_up (κ := 1) (n := 0) Gle_rf) C
  have tn_11 : Ty E (gN g_7 1 0) g_7.1 1 := Ty_new C0.2.2.2.2.2.2.2.2.2.1
  refine lv_dup C.1 C.2.1 dX6_init_49 rfl ?_
  obtain ⟨g_12, m_13, hc_12, hM⟩ := bg_some hM
  refine h_callN (host := RX10) C h (rest := [.ref g_7.1, .int 1, .ref b_10]) g_12 m_13 (c_X1_init hc_12 tn_11 C.2.2.2.2.2.2.2.2.2.1) rfl im_yX1_init cy_X1_init (by decide) ⟨by decide, by decide⟩ ⟨by decide, by decide⟩ hl.1 rfl (Nat.le_of_ble_eq_true rfl) dX6_init_50 (fun H locs h => ?_)
  have C := Cx_le (gle_X1_init hc_12) C
  obtain ⟨hi, hM⟩ := ib_some hM
  refine h_aast C h (Ty_le (gle_X1_init hc_12) (Ty_le (Gle_up Gle_rf) tb_10)) (Ty_le (gle_X1_init hc_12) tn_11) hi dX6_init_53 (fun H locs h => ?_)
  refine lv_iinc (v := 2) (lv' := [(1, .int 2), (0, .ref x0)]) C.1 C.2.1 dX6_init_54 hl (k := 0) rfl (by decide) (by decide) rfl (fun ls hl => ?_)
  refine lv_goto (tgt := 32) C.1 C.2.1 dX6_init_57 (by decide) ?_
  refine lv_iload_n C.1 C.2.1 dX6_init_32 rfl (lv_at hl 0 rfl) ?_
  refine lv_aload_n C.1 C.2.1 dX6_init_33 rfl (lv_at hl 1 rfl) ?_
  refine gt_6_0 C h (Ty_le (gle_X1_init hc_12) (Ty_le (Gle_up Gle_rf) (Ty_le (gle_X1_init hc_7) (Ty_le (Gle_up Gle_rf) (Ty_le (Gle_up Gle_rf) (Ty_le (Gle_up Gle_rf) (Ty_le (Gle_up Gle_rf) tx0))))))) fl_X6_11 dX6_init_34 ?_
  obtain ⟨b_14, hb_14, hM⟩ := nb_some hM
  have tb_14 : Ty E g_12 b_14 16 := tyf h (Ty_le (gle_X1_init hc_12) (Ty_le (Gle_up Gle_rf) (Ty_le (gle_X1_init hc_7) (Ty_le (Gle_up Gle_rf) (Ty_le (Gle_up Gle_rf) (Ty_le (Gle_up Gle_rf) (Ty_le (Gle_up Gle_rf) tx0))))))) hb_14
  refine st_ref hb_14 ?_
  refine h_alen C h 16 (by decide) (by decide) tb_14 dX6_init_37 ?_
  refine lv_icmp_ge (tgt := 60) C.1 C.2.1 dX6_init_38 (by decide) (fun q => ?_) (fun q => ?_)
  · have hM := ite_t q hM
    cases hM
  have hM := ite_f q hM
  refine lv_aload_n C.1 C.2.1 dX6_init_41 rfl (lv_at hl 1 rfl) ?_
  refine gt_6_0 C h (Ty_le (gle_X1_init hc_12) (Ty_le (Gle_up Gle_rf) (Ty_le (gle_X1_init hc_7) (Ty_le (Gle_up Gle_rf) (Ty_le (Gle_up Gle_rf) (Ty_le (Gle_up Gle_rf) (Ty_le (Gle_up Gle_rf) tx0))))))) fl_X6_11 dX6_init_42 ?_
  obtain ⟨b_15, hb_15, hM⟩ := nb_some hM
  have tb_15 : Ty E g_12 b_15 16 := tyf h (Ty_le (gle_X1_init hc_12) (Ty_le (Gle_up Gle_rf) (Ty_le (gle_X1_init hc_7) (Ty_le (Gle_up Gle_rf) (Ty_le (Gle_up Gle_rf) (Ty_le (Gle_up Gle_rf) (Ty_le (Gle_up Gle_rf) tx0))))))) hb_15
  refine st_ref hb_15 ?_
  refine lv_iload_n C.1 C.2.1 dX6_init_45 rfl (lv_at hl 0 rfl) ?_
  refine h_new C h 1 rfl (by decide) rfl iw_X1 tyX1_ok (by decide +kernel) cl_X6_9 is_X1 ii_X1 (by decide) (by decide) dX6_init_46 (fun H locs h => ?_)
  have C0 := C
  have C := Cx_le (Gle_up (κ := 1) (n := 0) Gle_rf) C
  have tn_16 : Ty E (gN g_12 1 0) g_12.1 1 := Ty_new C0.2.2.2.2.2.2.2.2.2.1
  refine lv_dup C.1 C.2.1 dX6_init_49 rfl ?_
  obtain ⟨g_17, m_18, hc_17, hM⟩ := bg_some hM
  refine h_callN (host := RX10) C h (rest := [.ref g_12.1, .int 2, .ref b_15]) g_17 m_18 (c_X1_init hc_17 tn_16 C.2.2.2.2.2.2.2.2.2.1) rfl im_yX1_init cy_X1_init (by decide) ⟨by decide, by decide⟩ ⟨by decide, by decide⟩ hl.1 rfl (Nat.le_of_ble_eq_true rfl) dX6_init_50 (fun H locs h => ?_)
  have C := Cx_le (gle_X1_init hc_17) C
  obtain ⟨hi, hM⟩ := ib_some hM
  refine h_aast C h (Ty_le (gle_X1_init hc_17) (Ty_le (Gle_up Gle_rf) tb_15)) (Ty_le (gle_X1_init hc_17) tn_16) hi dX6_init_53 (fun H locs h => ?_)
  refine lv_iinc (v := 3) (lv' := [(1, .int 3), (0, .ref x0)]) C.1 C.2.1 dX6_init_54 hl (k := 0) rfl (by decide) (by decide) rfl (fun ls hl => ?_)
  refine lv_goto (tgt := 32) C.1 C.2.1 dX6_init_57 (by decide) ?_
  refine lv_iload_n C.1 C.2.1 dX6_init_32 rfl (lv_at hl 0 rfl) ?_
  refine lv_aload_n C.1 C.2.1 dX6_init_33 rfl (lv_at hl 1 rfl) ?_
  refine gt_6_0 C h (Ty_le (gle_X1_init hc_17) (Ty_le (Gle_up Gle_rf) (Ty_le (gle_X1_init hc_12) (Ty_le (Gle_up Gle_rf) (Ty_le (gle_X1_init hc_7) (Ty_le (Gle_up Gle_rf) (Ty_le (Gle_up Gle_rf) (Ty_le (Gle_up Gle_rf) (Ty_le (Gle_up Gle_rf) tx0))))))))) fl_X6_11 dX6_init_34 ?_
  obtain ⟨b_19, hb_19, hM⟩ := nb_some hM
  have tb_19 : Ty E g_17 b_19 16 := tyf h (Ty_le (gle_X1_init hc_17) (Ty_le (Gle_up Gle_rf) (Ty_le (gle_X1_init hc_12) (Ty_le (Gle_up Gle_rf) (Ty_le (gle_X1_init hc_7) (Ty_le (Gle_up Gle_rf) (Ty_le (Gle_up Gle_rf) (Ty_le (Gle_up Gle_rf) (Ty_le (Gle_up Gle_rf) tx0))))))))) hb_19
  refine st_ref hb_19 ?_
  refine h_alen C h 16 (by decide) (by decide) tb_19 dX6_init_37 ?_
  refine lv_icmp_ge (tgt := 60) C.1 C.2.1 dX6_init_38 (by decide) (fun q => ?_) (fun q => ?_)
  · have hM := ite_t q hM
    cases hM
  have hM := ite_f q hM
  refine lv_aload_n C.1 C.2.1 dX6_init_41 rfl (lv_at hl 1 rfl) ?_
  refine gt_6_0 C h (Ty_le (gle_X1_init hc_17) (Ty_le (Gle_up Gle_rf) (Ty_le (gle_X1_init hc_12) (Ty_le (Gle_up Gle_rf) (Ty_le (gle_X1_init hc_7) (Ty_le (Gle_up Gle_rf) (Ty_le (Gle_up Gle_rf) (Ty_le (Gle_up Gle_rf) (Ty_le (Gle_up Gle_rf) tx0))))))))) fl_X6_11 dX6_init_42 ?_
  obtain ⟨b_20, hb_20, hM⟩ := nb_some hM
  have tb_20 : Ty E g_17 b_20 16 := tyf h (Ty_le (gle_X1_init hc_17) (Ty_le (Gle_up Gle_rf) (Ty_le (gle_X1_init hc_12) (Ty_le (Gle_up Gle_rf) (Ty_le (gle_X1_init hc_7) (Ty_le (Gle_up Gle_rf) (Ty_le (Gle_up Gle_rf) (Ty_le (Gle_up Gle_rf) (Ty_le (Gle_up Gle_rf) tx0))))))))) hb_20
  refine st_ref hb_20 ?_
  refine lv_iload_n C.1 C.2.1 dX6_init_45 rfl (lv_at hl 0 rfl) ?_
  refine h_new C h 1 rfl (by decide) rfl iw_X1 tyX1_ok (by decide +kernel) cl_X6_9 is_X1 ii_X1 (by decide) (by decide) dX6_init_46 (fun H locs h => ?_)
  have C0 := C
  have C := Cx_le (Gle_up (κ := 1) (n := 0) Gle_rf) C
  have tn_21 : Ty E (gN g_17 1 0) g_17.1 1 := Ty_new C0.2.2.2.2.2.2.2.2.2.1
  refine lv_dup C.1 C.2.1 dX6_init_49 rfl ?_
  obtain ⟨g_22, m_23, hc_22, hM⟩ := bg_some hM
  refine h_callN (host := RX10) C h (rest := [.ref g_17.1, .int 3, .ref b_20]) g_22 m_23 (c_X1_init hc_22 tn_21 C.2.2.2.2.2.2.2.2.2.1) rfl im_yX1_init cy_X1_init (by decide) ⟨by decide, by decide⟩ ⟨by decide, by decide⟩ hl.1 rfl (Nat.le_of_ble_eq_true rfl) dX6_init_50 (fun H locs h => ?_)
  have C := Cx_le (gle_X1_init hc_22) C
  obtain ⟨hi, hM⟩ := ib_some hM
  refine h_aast C h (Ty_le (gle_X1_init hc_22) (Ty_le (Gle_up Gle_rf) tb_20)) (Ty_le (gle_X1_init hc_22) tn_21) hi dX6_init_53 (fun H locs h => ?_)
  refine lv_iinc (v := 4) (lv' := [(1, .int 4), (0, .ref x0)]) C.1 C.2.1 dX6_init_54 hl (k := 0) rfl (by decide) (by decide) rfl (fun ls hl => ?_)
  refine lv_goto (tgt := 32) C.1 C.2.1 dX6_init_57 (by decide) ?_
  refine lv_iload_n C.1 C.2.1 dX6_init_32 rfl (lv_at hl 0 rfl) ?_
  refine lv_aload_n C.1 C.2.1 dX6_init_33 rfl (lv_at hl 1 rfl) ?_
  refine gt_6_0 C h (Ty_le (gle_X1_init hc_22) (Ty_le (Gle_up Gle_rf) (Ty_le (gle_X1_init hc_17) (Ty_le (Gle_up Gle_rf) (Ty_le (gle_X1_init hc_12) (Ty_le (Gle_up Gle_rf) (Ty_le (gle_X1_init hc_7) (Ty_le (Gle_up Gle_rf) (Ty_le (Gle_up Gle_rf) (Ty_le (Gle_up Gle_rf) (Ty_le (Gle_up Gle_rf) tx0))))))))))) fl_X6_11 dX6_init_34 ?_
  obtain ⟨b_24, hb_24, hM⟩ := nb_some hM
  have tb_24 : Ty E g_22 b_24 16 := tyf h (Ty_le (gle_X1_init hc_22) (Ty_le (Gle_up Gle_rf) (Ty_le (gle_X1_init hc_17) (Ty_le (Gle_up Gle_rf) (Ty_le (gle_X1_init hc_12) (Ty_le (Gle_up Gle_rf) (Ty_le (gle_X1_init hc_7) (Ty_le (Gle_up Gle_rf) (Ty_le (Gle_up Gle_rf) (Ty_le (Gle_up Gle_rf) (Ty_le (Gle_up Gle_rf) tx0))))))))))) hb_24
  refine st_ref hb_24 ?_
  refine h_alen C h 16 (by decide) (by decide) tb_24 dX6_init_37 ?_
  refine lv_icmp_ge (tgt := 60) C.1 C.2.1 dX6_init_38 (by decide) (fun q => ?_) (fun q => ?_)
  · have hM := ite_t q hM
    cases hM
  have hM := ite_f q hM
  refine lv_aload_n C.1 C.2.1 dX6_init_41 rfl (lv_at hl 1 rfl) ?_
  refine gt_6_0 C h (Ty_le (gle_X1_init hc_22) (Ty_le (Gle_up Gle_rf) (Ty_le (gle_X1_init hc_17) (Ty_le (Gle_up Gle_rf) (Ty_le (gle_X1_init hc_12) (Ty_le (Gle_up Gle_rf) (Ty_le (gle_X1_init hc_7) (Ty_le (Gle_up Gle_rf) (Ty_le (Gle_up Gle_rf) (Ty_le (Gle_up Gle_rf) (Ty_le (Gle_up Gle_rf) tx0))))))))))) fl_X6_11 dX6_init_42 ?_
  obtain ⟨b_25, hb_25, hM⟩ := nb_some hM
  have tb_25 : Ty E g_22 b_25 16 := tyf h (Ty_le (gle_X1_init hc_22) (Ty_le (Gle_up Gle_rf) (Ty_le (gle_X1_init hc_17) (Ty_le (Gle_up Gle_rf) (Ty_le (gle_X1_init hc_12) (Ty_le (Gle_up Gle_rf) (Ty_le (gle_X1_init hc_7) (Ty_le (Gle_up Gle_rf) (Ty_le (Gle_up Gle_rf) (Ty_le (Gle_up Gle_rf) (Ty_le (Gle_up Gle_rf) tx0))))))))))) hb_25
  refine st_ref hb_25 ?_
  refine lv_iload_n C.1 C.2.1 dX6_init_45 rfl (lv_at hl 0 rfl) ?_
  refine h_new C h 1 rfl (by decide) rfl iw_X1 tyX1_ok (by decide +kernel) cl_X6_9 is_X1 ii_X1 (by decide) (by decide) dX6_init_46 (fun H locs h => ?_)
  have C0 := C
  have C := Cx_le (Gle_up (κ := 1) (n := 0) Gle_rf) C
  have tn_26 : Ty E (gN g_22 1 0) g_22.1 1 := Ty_new C0.2.2.2.2.2.2.2.2.2.1
  refine lv_dup C.1 C.2.1 dX6_init_49 rfl ?_
  obtain ⟨g_27, m_28, hc_27, hM⟩ := bg_some hM
  refine h_callN (host := RX10) C h (rest := [.ref g_22.1, .int 4, .ref b_25]) g_27 m_28 (c_X1_init hc_27 tn_26 C.2.2.2.2.2.2.2.2.2.1) rfl im_yX1_init cy_X1_init (by decide) ⟨by decide, by decide⟩ ⟨by decide, by decide⟩ hl.1 rfl (Nat.le_of_ble_eq_true rfl) dX6_init_50 (fun H locs h => ?_)
  have C := Cx_le (gle_X1_init hc_27) C
  obtain ⟨hi, hM⟩ := ib_some hM
  refine h_aast C h (Ty_le (gle_X1_init hc_27) (Ty_le (Gle_up Gle_rf) tb_25)) (Ty_le (gle_X1_init hc_27) tn_26) hi dX6_init_53 (fun H locs h => ?_)
  refine lv_iinc (v := 5) (lv' := [(1, .int 5), (0, .ref x0)]) C.1 C.2.1 dX6_init_54 hl (k := 0) rfl (by decide) (by decide) rfl (fun ls hl => ?_)
  refine lv_goto (tgt := 32) C.1 C.2.1 dX6_init_57 (by decide) ?_
  refine lv_iload_n C.1 C.2.1 dX6_init_32 rfl (lv_at hl 0 rfl) ?_
  refine lv_aload_n C.1 C.2.1 dX6_init_33 rfl (lv_at hl 1 rfl) ?_
  refine gt_6_0 C h (Ty_le (gle_X1_init hc_27) (Ty_le (Gle_up Gle_rf) (Ty_le (gle_X1_init hc_22) (Ty_le (Gle_up Gle_rf) (Ty_le (gle_X1_init hc_17) (Ty_le (Gle_up Gle_rf) (Ty_le (gle_X1_init hc_12) (Ty_le (Gle_up Gle_rf) (Ty_le (gle_X1_init hc_7) (Ty_le (Gle_up Gle_rf) (Ty_le (Gle_up Gle_rf) (Ty_le (Gle_up Gle_rf) (Ty_le (Gle_up Gle_rf) tx0))))))))))))) fl_X6_11 dX6_init_34 ?_
  obtain ⟨b_29, hb_29, hM⟩ := nb_some hM
  have tb_29 : Ty E g_27 b_29 16 := tyf h (Ty_le (gle_X1_init hc_27) (Ty_le (Gle_up Gle_rf) (Ty_le (gle_X1_init hc_22) (Ty_le (Gle_up Gle_rf) (Ty_le (gle_X1_init hc_17) (Ty_le (Gle_up Gle_rf) (Ty_le (gle_X1_init hc_12) (Ty_le (Gle_up Gle_rf) (Ty_le (gle_X1_init hc_7) (Ty_le (Gle_up Gle_rf) (Ty_le (Gle_up Gle_rf) (Ty_le (Gle_up Gle_rf) (Ty_le (Gle_up Gle_rf) tx0))))))))))))) hb_29
  refine st_ref hb_29 ?_
  refine h_alen C h 16 (by decide) (by decide) tb_29 dX6_init_37 ?_
  refine lv_icmp_ge (tgt := 60) C.1 C.2.1 dX6_init_38 (by decide) (fun q => ?_) (fun q => ?_)
  · have hM := ite_t q hM
    cases hM
  have hM := ite_f q hM
  refine lv_aload_n C.1 C.2.1 dX6_init_41 rfl (lv_at hl 1 rfl) ?_
  refine gt_6_0 C h (Ty_le (gle_X1_init hc_27) (Ty_le (Gle_up Gle_rf) (Ty_le (gle_X1_init hc_22) (Ty_le (Gle_up Gle_rf) (Ty_le (gle_X1_init hc_17) (Ty_le (Gle_up Gle_rf) (Ty_le (gle_X1_init hc_12) (Ty_le (Gle_up Gle_rf) (Ty_le (gle_X1_init hc_7) (Ty_le (Gle_up Gle_rf) (Ty_le (Gle_up Gle_rf) (Ty_le (Gle_up Gle_rf) (Ty_le (Gle_up Gle_rf) tx0))))))))))))) fl_X6_11 dX6_init_42 ?_
  obtain ⟨b_30, hb_30, hM⟩ := nb_some hM
  have tb_30 : Ty E g_27 b_30 16 := tyf h (Ty_le (gle_X1_init hc_27) (Ty_le (Gle_up Gle_rf) (Ty_le (gle_X1_init hc_22) (Ty_le (Gle_up Gle_rf) (Ty_le (gle_X1_init hc_17) (Ty_le (Gle_up Gle_rf) (Ty_le (gle_X1_init hc_12) (Ty_le (Gle_up Gle_rf) (Ty_le (gle_X1_init hc_7) (Ty_le (Gle_up Gle_rf) (Ty_le (Gle_up Gle_rf) (Ty_le (Gle_up Gle_rf) (Ty_le (Gle_up Gle_rf) tx0))))))))))))) hb_30
  refine st_ref hb_30 ?_
  refine lv_iload_n C.1 C.2.1 dX6_init_45 rfl (lv_at hl 0 rfl) ?_
  refine h_new C h 1 rfl (by decide) rfl iw_X1 tyX1_ok (by decide +kernel) cl_X6_9 is_X1 ii_X1 (by decide) (by decide) dX6_init_46 (fun H locs h => ?_)
  have C0 := C
  have C := Cx_le (Gle_up (κ := 1) (n := 0) Gle_rf) C
  have tn_31 : Ty E (gN g_27 1 0) g_27.1 1 := Ty_new C0.2.2.2.2.2.2.2.2.2.1
  refine lv_dup C.1 C.2.1 dX6_init_49 rfl ?_
  obtain ⟨g_32, m_33, hc_32, hM⟩ := bg_some hM
  refine h_callN (host := RX10) C h (rest := [.ref g_27.1, .int 5, .ref b_30]) g_32 m_33 (c_X1_init hc_32 tn_31 C.2.2.2.2.2.2.2.2.2.1) rfl im_yX1_init cy_X1_init (by decide) ⟨by decide, by decide⟩ ⟨by decide, by decide⟩ hl.1 rfl (Nat.le_of_ble_eq_true rfl) dX6_init_50 (fun H locs h => ?_)
  have C := Cx_le (gle_X1_init hc_32) C
  obtain ⟨hi, hM⟩ := ib_some hM
  refine h_aast C h (Ty_le (gle_X1_init hc_32) (Ty_le (Gle_up Gle_rf) tb_30)) (Ty_le (gle_X1_init hc_32) tn_31) hi dX6_init_53 (fun H locs h => ?_)
  refine lv_iinc (v := 6) (lv' := [(1, .int 6), (0, .ref x0)]) C.1 C.2.1 dX6_init_54 hl (k := 0) rfl (by decide) (by decide) rfl (fun ls hl => ?_)
  refine lv_goto (tgt := 32) C.1 C.2.1 dX6_init_57 (by decide) ?_
  refine lv_iload_n C.1 C.2.1 dX6_init_32 rfl (lv_at hl 0 rfl) ?_
  refine lv_aload_n C.1 C.2.1 dX6_init_33 rfl (lv_at hl 1 rfl) ?_
  refine gt_6_0 C h (Ty_le (gle_X1_init hc_32) (Ty_le (Gle_up Gle_rf) (Ty_le (gle_X1_init hc_27) (Ty_le (Gle_up Gle_rf) (Ty_le (gle_X1_init hc_22) (Ty_le (Gle_up Gle_rf) (Ty_le (gle_X1_init hc_17) (Ty_le (Gle_up Gle_rf) (Ty_le (gle_X1_init hc_12) (Ty_le (Gle_up Gle_rf) (Ty_le (gle_X1_init hc_7) (Ty_le (Gle_up Gle_rf) (Ty_le (Gle_up Gle_rf) (Ty_le (Gle_up Gle_rf) (Ty_le (Gle_up Gle_rf) tx0))))))))))))))) fl_X6_11 dX6_init_34 ?_
  obtain ⟨b_34, hb_34, hM⟩ := nb_some hM
  have tb_34 : Ty E g_32 b_34 16 := tyf h (Ty_le (gle_X1_init hc_32) (Ty_le (Gle_up Gle_rf) (Ty_le (gle_X1_init hc_27) (Ty_le (Gle_up Gle_rf) (Ty_le (gle_X1_init hc_22) (Ty_le (Gle_up Gle_rf) (Ty_le (gle_X1_init hc_17) (Ty_le (Gle_up Gle_rf) (Ty_le (gle_X1_init hc_12) (Ty_le (Gle_up Gle_rf) (Ty_le (gle_X1_init hc_7) (Ty_le (Gle_up Gle_rf) (Ty_le (Gle_up Gle_rf) (Ty_le (Gle_up Gle_rf) (Ty_le (Gle_up Gle_rf) tx0))))))))))))))) hb_34
  refine st_ref hb_34 ?_
  refine h_alen C h 16 (by decide) (by decide) tb_34 dX6_init_37 ?_
  refine lv_icmp_ge (tgt := 60) C.1 C.2.1 dX6_init_38 (by decide) (fun q => ?_) (fun q => ?_)
  · have hM := ite_t q hM
    cases hM
  have hM := ite_f q hM
  refine lv_aload_n C.1 C.2.1 dX6_init_41 rfl (lv_at hl 1 rfl) ?_
  refine gt_6_0 C h (Ty_le (gle_X1_init hc_32) (Ty_le (Gle_up Gle_rf) (Ty_le (gle_X1_init hc_27) (Ty_le (Gle_up Gle_rf) (Ty_le (gle_X1_init hc_22) (Ty_le (Gle_up Gle_rf) (Ty_le (gle_X1_init hc_17) (Ty_le (Gle_up Gle_rf) (Ty_le (gle_X1_init hc_12) (Ty_le (Gle_up Gle_rf) (Ty_le (gle_X1_init hc_7) (Ty_le (Gle_up Gle_rf) (Ty_le (Gle_up Gle_rf) (Ty_le (Gle_up Gle_rf) (Ty_le (Gle_up Gle_rf) tx0))))))))))))))) fl_X6_11 dX6_init_42 ?_
  obtain ⟨b_35, hb_35, hM⟩ := nb_some hM
  have tb_35 : Ty E g_32 b_35 16 := tyf h (Ty_le (gle_X1_init hc_32) (Ty_le (Gle_up Gle_rf) (Ty_le (gle_X1_init hc_27) (Ty_le (Gle_up Gle_rf) (Ty_le (gle_X1_init hc_22) (Ty_le (Gle_up Gle_rf) (Ty_le (gle_X1_init hc_17) (Ty_le (Gle_up Gle_rf) (Ty_le (gle_X1_init hc_12) (Ty_le (Gle_up Gle_rf) (Ty_le (gle_X1_init hc_7) (Ty_le (Gle_up Gle_rf) (Ty_le (Gle_up Gle_rf) (Ty_le (Gle_up Gle_rf) (Ty_le (Gle_up Gle_rf) tx0))))))))))))))) hb_35
  refine st_ref hb_35 ?_
  refine lv_iload_n C.1 C.2.1 dX6_init_45 rfl (lv_at hl 0 rfl) ?_
  refine h_new C h 1 rfl (by decide) rfl iw_X1 tyX1_ok (by decide +kernel) cl_X6_9 is_X1 ii_X1 (by decide) (by decide) dX6_init_46 (fun H locs h => ?_)
  have C0 := C
  have C := Cx_le (Gle_up (κ := 1) (n := 0) Gle_rf) C
  have tn_36 : Ty E (gN g_32 1 0) g_32.1 1 := Ty_new C0.2.2.2.2.2.2.2.2.2.1
  refine lv_dup C.1 C.2.1 dX6_init_49 rfl ?_
  obtain ⟨g_37, m_38, hc_37, hM⟩ := bg_some hM
  refine h_callN (host := RX10) C h (rest := [.ref g_32.1, .int 6, .ref b_35]) g_37 m_38 (c_X1_init hc_37 tn_36 C.2.2.2.2.2.2.2.2.2.1) rfl im_yX1_init cy_X1_init (by decide) ⟨by decide, by decide⟩ ⟨by decide, by decide⟩ hl.1 rfl (Nat.le_of_ble_eq_true rfl) dX6_init_50 (fun H locs h => ?_)
  have C := Cx_le (gle_X1_init hc_37) C
  obtain ⟨hi, hM⟩ := ib_some hM
  refine h_aast C h (Ty_le (gle_X1_init hc_37) (Ty_le (Gle_up Gle_rf) tb_35)) (Ty_le (gle_X1_init hc_37) tn_36) hi dX6_init_53 (fun H locs h => ?_)
  refine lv_iinc (v := 7) (lv' := [(1, .int 7), (0, .ref x0)]) C.1 C.2.1 dX6_init_54 hl (k := 0) rfl (by decide) (by decide) rfl (fun ls hl => ?_)
  refine lv_goto (tgt := 32) C.1 C.2.1 dX6_init_57 (by decide) ?_
  refine lv_iload_n C.1 C.2.1 dX6_init_32 rfl (lv_at hl 0 rfl) ?_
  refine lv_aload_n C.1 C.2.1 dX6_init_33 rfl (lv_at hl 1 rfl) ?_
  refine gt_6_0 C h (Ty_le (gle_X1_init hc_37) (Ty_le (Gle_up Gle_rf) (Ty_le (gle_X1_init hc_32) (Ty_le (Gle_up Gle_rf) (Ty_le (gle_X1_init hc_27) (Ty_le (Gle_up Gle_rf) (Ty_le (gle_X1_init hc_22) (Ty_le (Gle_up Gle_rf) (Ty_le (gle_X1_init hc_17) (Ty_le (Gle_up Gle_rf) (Ty_le (gle_X1_init hc_12) (Ty_le (Gle_up Gle_rf) (Ty_le (gle_X1_init hc_7) (Ty_le (Gle_up Gle_rf) (Ty_le (Gle_up Gle_rf) (Ty_le (Gle_up Gle_rf) (Ty_le (Gle_up Gle_rf) tx0))))))))))))))))) fl_X6_11 dX6_init_34 ?_
  obtain ⟨b_39, hb_39, hM⟩ := nb_some hM
  have tb_39 : Ty E g_37 b_39 16 := tyf h (Ty_le (gle_X1_init hc_37) (Ty_le (Gle_up Gle_rf) (Ty_le (gle_X1_init hc_32) (Ty_le (Gle_up Gle_rf) (Ty_le (gle_X1_init hc_27) (Ty_le (Gle_up Gle_rf) (Ty_le (gle_X1_init hc_22) (Ty_le (Gle_up Gle_rf) (Ty_le (gle_X1_init hc_17) (Ty_le (Gle_up Gle_rf) (Ty_le (gle_X1_init hc_12) (Ty_le (Gle_up Gle_rf) (Ty_le (gle_X1_init hc_7) (Ty_le (Gle_up Gle_rf) (Ty_le (Gle_up Gle_rf) (Ty_le (Gle_up Gle_rf) (Ty_le (Gle_up Gle_rf) tx0))))))))))))))))) hb_39
  refine st_ref hb_39 ?_
  refine h_alen C h 16 (by decide) (by decide) tb_39 dX6_init_37 ?_
  refine lv_icmp_ge (tgt := 60) C.1 C.2.1 dX6_init_38 (by decide) (fun q => ?_) (fun q => ?_)
  · have hM := ite_t q hM
    cases hM
  have hM := ite_f q hM
  refine lv_aload_n C.1 C.2.1 dX6_init_41 rfl (lv_at hl 1 rfl) ?_
  refine gt_6_0 C h (Ty_le (gle_X1_init hc_37) (Ty_le (Gle_up Gle_rf) (Ty_le (gle_X1_init hc_32) (Ty_le (Gle_up Gle_rf) (Ty_le (gle_X1_init hc_27) (Ty_le (Gle_up Gle_rf) (Ty_le (gle_X1_init hc_22) (Ty_le (Gle_up Gle_rf) (Ty_le (gle_X1_init hc_17) (Ty_le (Gle_up Gle_rf) (Ty_le (gle_X1_init hc_12) (Ty_le (Gle_up Gle_rf) (Ty_le (gle_X1_init hc_7) (Ty_le (Gle_up Gle_rf) (Ty_le (Gle_up Gle_rf) (Ty_le (Gle_up Gle_rf) (Ty_le (Gle_up Gle_rf) tx0))))))))))))))))) fl_X6_11 dX6_init_42 ?_
  obtain ⟨b_40, hb_40, hM⟩ := nb_some hM
  have tb_40 : Ty E g_37 b_40 16 := tyf h (Ty_le (gle_X1_init hc_37) (Ty_le (Gle_up Gle_rf) (Ty_le (gle_X1_init hc_32) (Ty_le (Gle_up Gle_rf) (Ty_le (gle_X1_init hc_27) (Ty_le (Gle_up Gle_rf) (Ty_le (gle_X1_init hc_22) (Ty_le (Gle_up Gle_rf) (Ty_le (gle_X1_init hc_17) (Ty_le (Gle_up Gle_rf) (Ty_le (gle_X1_init hc_12) (Ty_le (Gle_up Gle_rf) (Ty_le (gle_X1_init hc_7) (Ty_le (Gle_up Gle_rf) (Ty_le (Gle_up Gle_rf) (Ty_le (Gle_up Gle_rf) (Ty_le (Gle_up Gle_rf) tx0))))))))))))))))) hb_40
  refine st_ref hb_40 ?_
  refine lv_iload_n C.1 C.2.1 dX6_init_45 rfl (lv_at hl 0 rfl) ?_
  refine h_new C h 1 rfl (by decide) rfl iw_X1 tyX1_ok (by decide +kernel) cl_X6_9 is_X1 ii_X1 (by decide) (by decide) dX6_init_46 (fun H locs h => ?_)
  have C0 := C
  have C := Cx_le (Gle_up (κ := 1) (n := 0) Gle_rf) C
  have tn_41 : Ty E (gN g_37 1 0) g_37.1 1 := Ty_new C0.2.2.2.2.2.2.2.2.2.1
  refine lv_dup C.1 C.2.1 dX6_init_49 rfl ?_
  obtain ⟨g_42, m_43, hc_42, hM⟩ := bg_some hM
  refine h_callN (host := RX10) C h (rest := [.ref g_37.1, .int 7, .ref b_40]) g_42 m_43 (c_X1_init hc_42 tn_41 C.2.2.2.2.2.2.2.2.2.1) rfl im_yX1_init cy_X1_init (by decide) ⟨by decide, by decide⟩ ⟨by decide, by decide⟩ hl.1 rfl (Nat.le_of_ble_eq_true rfl) dX6_init_50 (fun H locs h => ?_)
  have C := Cx_le (gle_X1_init hc_42) C
  obtain ⟨hi, hM⟩ := ib_some hM
  refine h_aast C h (Ty_le (gle_X1_init hc_42) (Ty_le (Gle_up Gle_rf) tb_40)) (Ty_le (gle_X1_init hc_42) tn_41) hi dX6_init_53 (fun H locs h => ?_)
  refine lv_iinc (v := 8) (lv' := [(1, .int 8), (0, .ref x0)]) C.1 C.2.1 dX6_init_54 hl (k := 0) rfl (by decide) (by decide) rfl (fun ls hl => ?_)
  refine lv_goto (tgt := 32) C.1 C.2.1 dX6_init_57 (by decide) ?_
  refine lv_iload_n C.1 C.2.1 dX6_init_32 rfl (lv_at hl 0 rfl) ?_
  refine lv_aload_n C.1 C.2.1 dX6_init_33 rfl (lv_at hl 1 rfl) ?_
  refine gt_6_0 C h (Ty_le (gle_X1_init hc_42) (Ty_le (Gle_up Gle_rf) (Ty_le (gle_X1_init hc_37) (Ty_le (Gle_up Gle_rf) (Ty_le (gle_X1_init hc_32) (Ty_le (Gle_up Gle_rf) (Ty_le (gle_X1_init hc_27) (Ty_le (Gle_up Gle_rf) (Ty_le (gle_X1_init hc_22) (Ty_le (Gle_up Gle_rf) (Ty_le (gle_X1_init hc_17) (Ty_le (Gle_up Gle_rf) (Ty_le (gle_X1_init hc_12) (Ty_le (Gle_up Gle_rf) (Ty_le (gle_X1_init hc_7) (Ty_le (Gle_up Gle_rf) (Ty_le (Gle_up Gle_rf) (Ty_le (Gle_up Gle_rf) (Ty_le (Gle_up Gle_rf) tx0))))))))))))))))))) fl_X6_11 dX6_init_34 ?_
  obtain ⟨b_44, hb_44, hM⟩ := nb_some hM
  have tb_44 : Ty E g_42 b_44 16 := tyf h (Ty_le (gle_X1_init hc_42) (Ty_le (Gle_up Gle_rf) (Ty_le (gle_X1_init hc_37) (Ty_le (Gle_up Gle_rf) (Ty_le (gle_X1_init hc_32) (Ty_le (Gle_up Gle_rf) (Ty_le (gle_X1_init hc_27) (Ty_le (Gle_up Gle_rf) (Ty_le (gle_X1_init hc_22) (Ty_le (Gle_up Gle_rf) (Ty_le (gle_X1_init hc_17) (Ty_le (Gle_up Gle_rf) (Ty_le (gle_X1_init hc_12) (Ty_le (Gle_up Gle_rf) (Ty_le (gle_X1_init hc_7) (Ty_le (Gle_up Gle_rf) (Ty_le (Gle_up Gle_rf) (Ty_le (Gle_up Gle_rf) (Ty_le (Gle_up Gle_rf) tx0))))))))))))))))))) hb_44
  refine st_ref hb_44 ?_
  refine h_alen C h 16 (by decide) (by decide) tb_44 dX6_init_37 ?_
  refine lv_icmp_ge (tgt := 60) C.1 C.2.1 dX6_init_38 (by decide) (fun q => ?_) (fun q => ?_)
  rotate_left
  · have hM := ite_t q hM
    cases hM
  have hM := ite_f (fun z => z q) hM
  cases hM
  exact h_vret C h dX6_init_60
abbrev rmX7_init : Room := { frames := 1, cells := 2, slots := 389, locals := 30 }
def K_X7_init (G : GG) (x0 : Nat) (m : MM) : Option (GG × MM) :=
  some ((gN (gN G 12 200) 12 189), sR (clr (sR (clr m G.1) x0 0 (some G.1)) (gN G 12 200).1) x0 1 (some ((gN G 12 200).1)))
theorem gle_X7_init {G G9 : GG} {x0 : Nat} {m m9 : MM} (hM : K_X7_init G x0 m = some (G9, m9)) : Gle G G9 := by
  unfold K_X7_init at hM
  cases hM
  exact (Gle_up (Gle_up Gle_rf))
theorem cy_X7_init : Cy yX7_init cX7_init 1 none 0 := ⟨cd_yX7_init, ii_X7, by decide, by decide, by decide +kernel⟩
set_option maxRecDepth 100000 in
set_option maxHeartbeats 4000000 in
theorem c_X7_init {l : Launch} {E : EE} {G G9 : GG} {x0 : Nat} {m m9 : MM} (hM : K_X7_init G x0 m = some (G9, m9)) (tx0 : Ty E G x0 7) (hb0 : E.2.2.1 ≤ G.1) : Mc l E yX7_init cX7_init 1 none rmX7_init [.ref x0] G m (cQv E G9 m9) := by
  refine M_of (by decide) (Nat.le_of_ble_eq_true rfl) (fun p e s mth below meth c C h ls hl => ?_)
  unfold K_X7_init at hM
  refine lv_aload_n C.1 C.2.1 dX7_init_0 rfl (lv_at hl 0 rfl) ?_
  refine h_obj C hl.1 ml_X7_3 (by decide) (by decide) dX7_init_1 ?_
  refine lv_aload_n C.1 C.2.1 dX7_init_4 rfl (lv_at hl 0 rfl) ?_
  refine lv_sipush (v := 200) C.1 C.2.1 dX7_init_5 (by decide) ?_
  refine h_newa C h 12 (by decide) (by decide) rfl ac_int 200 (by decide) (by decide) (by decide) (by decide) (by decide) dX7_init_8 (fun H locs h => ?_)
  have C0 := C
  have C := Cx_le (Gle_up (κ := 12) (n := 200) Gle_rf) C
  have tn_1 : Ty E (gN G 12 200) G.1 12 := Ty_new C0.2.2.2.2.2.2.2.2.2.1
  refine st_some ?_
  refine pt_7_0 C h rfl rfl (fun b hb => by cases hb; exact tn_1) (Ty_le (Gle_up Gle_rf) tx0) fl_X7_9 dX7_init_10 (fun H locs h => ?_)
  refine lv_aload_n C.1 C.2.1 dX7_init_13 rfl (lv_at hl 0 rfl) ?_
  refine lv_sipush (v := 189) C.1 C.2.1 dX7_init_14 (by decide) ?_
  refine h_newa C h 12 (by decide) (by decide) rfl ac_int 189 (by decide) (by decide) (by decide) (by decide) (by decide) dX7_init_17 (fun H locs h => ?_)
  have C0 := C
  have C := Cx_le (Gle_up (κ := 12) (n := 189) Gle_rf) C
  have tn_2 : Ty E (gN (gN G 12 200) 12 189) (gN G 12 200).1 12 := Ty_new C0.2.2.2.2.2.2.2.2.2.1
  refine st_some ?_
  refine pt_7_1 C h rfl rfl (fun b hb => by cases hb; exact tn_2) (Ty_le (Gle_up Gle_rf) (Ty_le (Gle_up Gle_rf) tx0)) fl_X7_15 dX7_init_19 (fun H locs h => ?_)
  cases hM
  exact h_vret C h dX7_init_22
abbrev rmX8_init : Room := { frames := 1, cells := 1, slots := 2000, locals := 30 }
def K_X8_init (G : GG) (x0 : Nat) (m : MM) : Option (GG × MM) :=
  some ((gN G 13 2000), sR (clr m G.1) x0 0 (some G.1))
theorem gle_X8_init {G G9 : GG} {x0 : Nat} {m m9 : MM} (hM : K_X8_init G x0 m = some (G9, m9)) : Gle G G9 := by
  unfold K_X8_init at hM
  cases hM
  exact (Gle_up Gle_rf)
theorem cy_X8_init : Cy yX8_init cX8_init 1 none 0 := ⟨cd_yX8_init, ii_X8, by decide, by decide, by decide +kernel⟩
set_option maxRecDepth 100000 in
set_option maxHeartbeats 4000000 in
theorem c_X8_init {l : Launch} {E : EE} {G G9 : GG} {x0 : Nat} {m m9 : MM} (hM : K_X8_init G x0 m = some (G9, m9)) (tx0 : Ty E G x0 8) (hb0 : E.2.2.1 ≤ G.1) : Mc l E yX8_init cX8_init 1 none rmX8_init [.ref x0] G m (cQv E G9 m9) := by
  refine M_of (by decide) (Nat.le_of_ble_eq_true rfl) (fun p e s mth below meth c C h ls hl => ?_)
  unfold K_X8_init at hM
  refine lv_aload_n C.1 C.2.1 dX8_init_0 rfl (lv_at hl 0 rfl) ?_
  refine h_obj C hl.1 ml_X8_3 (by decide) (by decide) dX8_init_1 ?_
  refine lv_aload_n C.1 C.2.1 dX8_init_4 rfl (lv_at hl 0 rfl) ?_
  refine lv_sipush (v := 2000) C.1 C.2.1 dX8_init_5 (by decide) ?_
  refine h_newa C h 13 (by decide) (by decide) rfl ac_byte 2000 (by decide) (by decide) (by decide) (by decide) (by decide) dX8_init_8 (fun H locs h => ?_)
  have C0 := C
  have C := Cx_le (Gle_up (κ := 13) (n := 2000) Gle_rf) C
  have tn_1 : Ty E (gN G 13 2000) G.1 13 := Ty_new C0.2.2.2.2.2.2.2.2.2.1
  refine st_some ?_
  refine pt_8_0 C h rfl rfl (fun b hb => by cases hb; exact tn_1) (Ty_le (Gle_up Gle_rf) tx0) fl_X8_9 dX8_init_10 (fun H locs h => ?_)
  cases hM
  exact h_vret C h dX8_init_13
abbrev rmX9_init : Room := { frames := 1, cells := 1, slots := 2001, locals := 30 }
def K_X9_init (G : GG) (x0 : Nat) (m : MM) : Option (GG × MM) :=
  some ((gN G 15 2001), sR (clr m G.1) x0 0 (some G.1))
theorem gle_X9_init {G G9 : GG} {x0 : Nat} {m m9 : MM} (hM : K_X9_init G x0 m = some (G9, m9)) : Gle G G9 := by
  unfold K_X9_init at hM
  cases hM
  exact (Gle_up Gle_rf)
theorem cy_X9_init : Cy yX9_init cX9_init 1 none 0 := ⟨cd_yX9_init, ii_X9, by decide, by decide, by decide +kernel⟩
set_option maxRecDepth 100000 in
set_option maxHeartbeats 4000000 in
theorem c_X9_init {l : Launch} {E : EE} {G G9 : GG} {x0 : Nat} {m m9 : MM} (hM : K_X9_init G x0 m = some (G9, m9)) (tx0 : Ty E G x0 9) (hb0 : E.2.2.1 ≤ G.1) : Mc l E yX9_init cX9_init 1 none rmX9_init [.ref x0] G m (cQv E G9 m9) := by
  refine M_of (by decide) (Nat.le_of_ble_eq_true rfl) (fun p e s mth below meth c C h ls hl => ?_)
  unfold K_X9_init at hM
  refine lv_aload_n C.1 C.2.1 dX9_init_0 rfl (lv_at hl 0 rfl) ?_
  refine h_obj C hl.1 ml_X9_3 (by decide) (by decide) dX9_init_1 ?_
  refine lv_aload_n C.1 C.2.1 dX9_init_4 rfl (lv_at hl 0 rfl) ?_
  refine lv_sipush (v := 2001) C.1 C.2.1 dX9_init_5 (by decide) ?_
  refine h_newa C h 15 (by decide) (by decide) rfl ac_long 2001 (by decide) (by decide) (by decide) (by decide) (by decide) dX9_init_8 (fun H locs h => ?_)
  have C0 := C
  have C := Cx_le (Gle_up (κ := 15) (n := 2001) Gle_rf) C
  have tn_1 : Ty E (gN G 15 2001) G.1 15 := Ty_new C0.2.2.2.2.2.2.2.2.2.1
  refine st_some ?_
  refine pt_9_0 C h rfl rfl (fun b hb => by cases hb; exact tn_1) (Ty_le (Gle_up Gle_rf) tx0) fl_X9_9 dX9_init_10 (fun H locs h => ?_)
  cases hM
  exact h_vret C h dX9_init_13
abbrev rmX5_init : Room := { frames := 2, cells := 4, slots := 2042, locals := 50 }
def K_X5_init (G : GG) (x0 : Nat) (m : MM) : Option (GG × MM) :=
  bg (K_X9_init (gN G 9 0) G.1 (clr m G.1)) fun g_2 m_3 =>
  bg (K_X2_init (gN g_2 2 0) g_2.1 (clr (sR m_3 x0 0 (some G.1)) g_2.1)) fun g_5 m_6 =>
  some (g_5, sR m_6 x0 1 (some g_2.1))
theorem gle_X5_init {G G9 : GG} {x0 : Nat} {m m9 : MM} (hM : K_X5_init G x0 m = some (G9, m9)) : Gle G G9 := by
  unfold K_X5_init at hM
  obtain ⟨g_2, m_3, hc_2, hM⟩ := bg_some hM
  obtain ⟨g_5, m_6, hc_5, hM⟩ := bg_some hM
  cases hM
  exact (Gle_tr (Gle_up (Gle_tr (Gle_up Gle_rf) (gle_X9_init hc_2))) (gle_X2_init hc_5))
theorem cy_X5_init : Cy yX5_init cX5_init 1 none 0 := ⟨cd_yX5_init, ii_X5, by decide, by decide, by decide +kernel⟩
set_option maxRecDepth 100000 in
set_option maxHeartbeats 4000000 in
theorem c_X5_init {l : Launch} {E : EE} {G G9 : GG} {x0 : Nat} {m m9 : MM} (hM : K_X5_init G x0 m = some (G9, m9)) (tx0 : Ty E G x0 5) (hb0 : E.2.2.1 ≤ G.1) : Mc l E yX5_init cX5_init 1 none rmX5_init [.ref x0] G m (cQv E G9 m9) := by
  refine M_of (by decide) (Nat.le_of_ble_eq_true rfl) (fun p e s mth below meth c C h ls hl => ?_)
  unfold K_X5_init at hM
  refine lv_aload_n C.1 C.2.1 dX5_init_0 rfl (lv_at hl 0 rfl) ?_
  refine h_obj C hl.1 ml_X5_3 (by decide) (by decide) dX5_init_1 ?_
  refine lv_aload_n C.1 C.2.1 dX5_init_4 rfl (lv_at hl 0 rfl) ?_
  refine h_new C h 9 rfl (by decide) rfl iw_X9 tyX9_ok (by decide +kernel) cl_X5_9 is_X9 ii_X9 (by decide) (by decide) dX5_init_5 (fun H locs h => ?_)
  have C0 := C
  have C := Cx_le (Gle_up (κ := 9) (n := 0) Gle_rf) C
  have tn_1 : Ty E (gN G 9 0) G.1 9 := Ty_new C0.2.2.2.2.2.2.2.2.2.1
  refine lv_dup C.1 C.2.1 dX5_init_8 rfl ?_
  obtain ⟨g_2, m_3, hc_2, hM⟩ := bg_some hM
  refine h_callN (host := RX10) C h (rest := [.ref G.1, .ref x0]) g_2 m_3 (c_X9_init hc_2 tn_1 C.2.2.2.2.2.2.2.2.2.1) rfl im_yX9_init cy_X9_init (by decide) ⟨by decide, by decide⟩ ⟨by decide, by decide⟩ hl.1 rfl (Nat.le_of_ble_eq_true rfl) dX5_init_9 (fun H locs h => ?_)
  have C := Cx_le (gle_X9_init hc_2) C
  refine st_some ?_
  refine pt_5_0 C h rfl rfl (fun b hb => by cases hb; exact (Ty_le (gle_X9_init hc_2) tn_1)) (Ty_le (gle_X9_init hc_2) (Ty_le (Gle_up Gle_rf) tx0)) fl_X5_12 dX5_init_12 (fun H locs h => ?_)
  refine lv_aload_n C.1 C.2.1 dX5_init_15 rfl (lv_at hl 0 rfl) ?_
  refine h_new C h 2 rfl (by decide) rfl iw_X2 tyX2_ok (by decide +kernel) cl_X5_18 is_X2 ii_X2 (by decide) (by decide) dX5_init_16 (fun H locs h => ?_)
  have C0 := C
  have C := Cx_le (Gle_up (κ := 2) (n := 0) Gle_rf) C
  have tn_4 : Ty E (gN g_2 2 0) g_2.1 2 := Ty_new C0.2.2.2.2.2.2.2.2.2.1
  refine lv_dup C.1 C.2.1 dX5_init_19 rfl ?_
  obtain ⟨g_5, m_6, hc_5, hM⟩ := bg_some hM
  refine h_callN (host := RX10) C h (rest := [.ref g_2.1, .ref x0]) g_5 m_6 (c_X2_init hc_5 tn_4 C.2.2.2.2.2.2.2.2.2.1) rfl im_yX2_init cy_X2_init (by decide) ⟨by decide, by decide⟩ ⟨by decide, by decide⟩ hl.1 rfl (Nat.le_of_ble_eq_true rfl) dX5_init_20 (fun H locs h => ?_)
  have C := Cx_le (gle_X2_init hc_5) C
  refine st_some ?_
  refine pt_5_1 C h rfl rfl (fun b hb => by cases hb; exact (Ty_le (gle_X2_init hc_5) tn_4)) (Ty_le (gle_X2_init hc_5) (Ty_le (Gle_up Gle_rf) (Ty_le (gle_X9_init hc_2) (Ty_le (Gle_up Gle_rf) tx0)))) fl_X5_21 dX5_init_23 (fun H locs h => ?_)
  cases hM
  exact h_vret C h dX5_init_26
abbrev rmX10_init : Room := { frames := 3, cells := 215, slots := 14077, locals := 71 }
def K_X10_init (G : GG) (x0 : Nat) (m : MM) : Option (GG × MM) :=
  bg (K_X6_init (gN G 6 0) G.1 (clr m G.1)) fun g_2 m_3 =>
  bg (K_X6_init (gN g_2 6 0) g_2.1 (clr (sR m_3 x0 0 (some G.1)) g_2.1)) fun g_5 m_6 =>
  bg (K_X8_init (gN g_5 8 0) g_5.1 (clr (sR m_6 x0 1 (some g_2.1)) g_5.1)) fun g_8 m_9 =>
  bg (K_X3_init (gN g_8 3 0) g_8.1 (clr (sR m_9 x0 2 (some g_5.1)) g_8.1)) fun g_11 m_12 =>
  bg (K_X5_init (gN g_11 5 0) g_11.1 (clr (sR m_12 x0 3 (some g_8.1)) g_11.1)) fun g_14 m_15 =>
  bg (K_X0_init (gN g_14 0 0) g_14.1 (clr (sR m_15 x0 4 (some g_11.1)) g_14.1)) fun g_17 m_18 =>
  bg (K_X7_init (gN g_17 7 0) g_17.1 (clr (sR m_18 x0 5 (some g_14.1)) g_17.1)) fun g_20 m_21 =>
  nb (gR (sR (clr (sR m_21 x0 6 (some g_17.1)) g_20.1) x0 7 (some g_20.1)) x0 0) fun b_23 =>
  bg (K_X8_init (gN (gN g_20 12 12) 8 0) ((gN g_20 12 12).1) (clr (sR (clr (sR m_21 x0 6 (some g_17.1)) g_20.1) x0 7 (some g_20.1)) (gN g_20 12 12).1)) fun g_25 m_26 =>
  bd (M_X6_begin g_25 b_23 ((gN g_20 12 12).1) m_26) fun _ m_27 =>
  some (g_25, m_27)
theorem gle_X10_init {G G9 : GG} {x0 : Nat} {m m9 : MM} (hM : K_X10_init G x0 m = some (G9, m9)) : Gle G G9 := by
  unfold K_X10_init at hM
  obtain ⟨g_2, m_3, hc_2, hM⟩ := bg_some hM
  obtain ⟨g_5, m_6, hc_5, hM⟩ := bg_some hM
  obtain ⟨g_8, m_9, hc_8, hM⟩ := bg_some hM
  obtain ⟨g_11, m_12, hc_11, hM⟩ := bg_some hM
  obtain ⟨g_14, m_15, hc_14, hM⟩ := bg_some hM
  obtain ⟨g_17, m_18, hc_17, hM⟩ := bg_some hM
  obtain ⟨g_20, m_21, hc_20, hM⟩ := bg_some hM
  obtain ⟨b_23, hb_23, hM⟩ := nb_some hM
  obtain ⟨g_25, m_26, hc_25, hM⟩ := bg_some hM
  obtain ⟨r9, m_27, hc_27, hM⟩ := bd_some hM
  cases hM
  exact (Gle_tr (Gle_up (Gle_up (Gle_tr (Gle_up (Gle_tr (Gle_up (Gle_tr (Gle_up (Gle_tr (Gle_up (Gle_tr (Gle_up (Gle_tr (Gle_up (Gle_tr (Gle_up Gle_rf) (gle_X6_init hc_2))) (gle_X6_init hc_5))) (gle_X8_init hc_8))) (gle_X3_init hc_11))) (gle_X5_init hc_14))) (gle_X0_init hc_17))) (gle_X7_init hc_20)))) (gle_X8_init hc_25))
theorem cy_X10_init : Cy yX10_init cX10_init 1 none 0 := ⟨cd_yX10_init, ii_X10, by decide, by decide, by decide +kernel⟩
set_option maxRecDepth 100000 in
set_option maxHeartbeats 4000000 in
theorem c_X10_init {l : Launch} {E : EE} {G G9 : GG} {x0 : Nat} {m m9 : MM} (hM : K_X10_init G x0 m = some (G9, m9)) (tx0 : Ty E G x0 10) (hb0 : E.2.2.1 ≤ G.1) : Mc l E yX10_init cX10_init 1 none rmX10_init [.ref x0] G m (cQv E G9 m9) := by
  refine M_of (by decide) (Nat.le_of_ble_eq_true rfl) (fun p e s mth below meth c C h ls hl => ?_)
  unfold K_X10_init at hM
  refine lv_aload_n C.1 C.2.1 dX10_init_0 rfl (lv_at hl 0 rfl) ?_
  refine h_obj C hl.1 ml_X10_1 (by decide) (by decide) dX10_init_1 ?_
  refine lv_aload_n C.1 C.2.1 dX10_init_4 rfl (lv_at hl 0 rfl) ?_
  refine h_new C h 6 rfl (by decide) rfl iw_X6 tyX6_ok (by decide +kernel) cl_X10_7 is_X6 ii_X6 (by decide) (by decide) dX10_init_5 (fun H locs h => ?_)
  have C0 := C
  have C := Cx_le (Gle_up (κ := 6) (n := 0) Gle_rf) C
  have tn_1 : Ty E (gN G 6 0) G.1 6 := Ty_new C0.2.2.2.2.2.2.2.2.2.1
  refine lv_dup C.1 C.2.1 dX10_init_8 rfl ?_
  obtain ⟨g_2, m_3, hc_2, hM⟩ := bg_some hM
  refine h_callI C h (rest := [.ref G.1, .ref x0]) g_2 m_3 (c_X6_init hc_2 tn_1 C.2.2.2.2.2.2.2.2.2.1) rfl im_yX6_init cy_X6_init ml_X10_9 ⟨by decide, by decide⟩ ⟨by decide, by decide⟩ hl.1 rfl (Nat.le_of_ble_eq_true rfl) dX10_init_9 (fun H locs h => ?_)
  have C := Cx_le (gle_X6_init hc_2) C
  refine st_some ?_
  refine pt_10_0 C h (fun b hb => by cases hb; exact (Ty_le (gle_X6_init hc_2) tn_1)) (Ty_le (gle_X6_init hc_2) (Ty_le (Gle_up Gle_rf) tx0)) fl_X10_10 dX10_init_12 (fun H locs h => ?_)
  refine lv_aload_n C.1 C.2.1 dX10_init_15 rfl (lv_at hl 0 rfl) ?_
  refine h_new C h 6 rfl (by decide) rfl iw_X6 tyX6_ok (by decide +kernel) cl_X10_7 is_X6 ii_X6 (by decide) (by decide) dX10_init_16 (fun H locs h => ?_)
  have C0 := C
  have C := Cx_le (Gle_up (κ := 6) (n := 0) Gle_rf) C
  have tn_4 : Ty E (gN g_2 6 0) g_2.1 6 := Ty_new C0.2.2.2.2.2.2.2.2.2.1
  refine lv_dup C.1 C.2.1 dX10_init_19 rfl ?_
  obtain ⟨g_5, m_6, hc_5, hM⟩ := bg_some hM
  refine h_callI C h (rest := [.ref g_2.1, .ref x0]) g_5 m_6 (c_X6_init hc_5 tn_4 C.2.2.2.2.2.2.2.2.2.1) rfl im_yX6_init cy_X6_init ml_X10_9 ⟨by decide, by decide⟩ ⟨by decide, by decide⟩ hl.1 rfl (Nat.le_of_ble_eq_true rfl) dX10_init_20 (fun H locs h => ?_)
  have C := Cx_le (gle_X6_init hc_5) C
  refine st_some ?_
  refine pt_10_1 C h (fun b hb => by cases hb; exact (Ty_le (gle_X6_init hc_5) tn_4)) (Ty_le (gle_X6_init hc_5) (Ty_le (Gle_up Gle_rf) (Ty_le (gle_X6_init hc_2) (Ty_le (Gle_up Gle_rf) tx0)))) fl_X10_16 dX10_init_23 (fun H locs h => ?_)
  refine lv_aload_n C.1 C.2.1 dX10_init_26 rfl (lv_at hl 0 rfl) ?_
  refine h_new C h 8 rfl (by decide) rfl iw_X8 tyX8_ok (by decide +kernel) cl_X10_19 is_X8 ii_X8 (by decide) (by decide) dX10_init_27 (fun H locs h => ?_)
  have C0 := C
  have C := Cx_le (Gle_up (κ := 8) (n := 0) Gle_rf) C
  have tn_7 : Ty E (gN g_5 8 0) g_5.1 8 := Ty_new C0.2.2.2.2.2.2.2.2.2.1
  refine lv_dup C.1 C.2.1 dX10_init_30 rfl ?_
  obtain ⟨g_8, m_9, hc_8, hM⟩ := bg_some hM
  refine h_callN (host := RX10) C h (rest := [.ref g_5.1, .ref x0]) g_8 m_9 (c_X8_init hc_8 tn_7 C.2.2.2.2.2.2.2.2.2.1) rfl im_yX8_init cy_X8_init (by decide) ⟨by decide, by decide⟩ ⟨by decide, by decide⟩ hl.1 rfl (Nat.le_of_ble_eq_true rfl) dX10_init_31 (fun H locs h => ?_)
  have C := Cx_le (gle_X8_init hc_8) C
  refine st_some ?_
  refine pt_10_2 C h (fun b hb => by cases hb; exact (Ty_le (gle_X8_init hc_8) tn_7)) (Ty_le (gle_X8_init hc_8) (Ty_le (Gle_up Gle_rf) (Ty_le (gle_X6_init hc_5) (Ty_le (Gle_up Gle_rf) (Ty_le (gle_X6_init hc_2) (Ty_le (Gle_up Gle_rf) tx0)))))) fl_X10_22 dX10_init_34 (fun H locs h => ?_)
  refine lv_aload_n C.1 C.2.1 dX10_init_37 rfl (lv_at hl 0 rfl) ?_
  refine h_new C h 3 rfl (by decide) rfl iw_X3 tyX3_ok (by decide +kernel) cl_X10_26 is_X3 ii_X3 (by decide) (by decide) dX10_init_38 (fun H locs h => ?_)
  have C0 := C
  have C := Cx_le (Gle_up (κ := 3) (n := 0) Gle_rf) C
  have tn_10 : Ty E (gN g_8 3 0) g_8.1 3 := Ty_new C0.2.2.2.2.2.2.2.2.2.1
  refine lv_dup C.1 C.2.1 dX10_init_41 rfl ?_
  obtain ⟨g_11, m_12, hc_11, hM⟩ := bg_some hM
  refine h_callN (host := RX10) C h (rest := [.ref g_8.1, .ref x0]) g_11 m_12 (c_X3_init hc_11 tn_10 C.2.2.2.2.2.2.2.2.2.1) rfl im_yX3_init cy_X3_init (by decide) ⟨by decide, by decide⟩ ⟨by decide, by decide⟩ hl.1 rfl (Nat.le_of_ble_eq_true rfl) dX10_init_42 (fun H locs h => ?_)
  have C := Cx_le (gle_X3_init hc_11) C
  refine st_some ?_
  refine pt_10_3 C h rfl rfl (fun b hb => by cases hb; exact (Ty_le (gle_X3_init hc_11) tn_10)) (Ty_le (gle_X3_init hc_11) (Ty_le (Gle_up Gle_rf) (Ty_le (gle_X8_init hc_8) (Ty_le (Gle_up Gle_rf) (Ty_le (gle_X6_init hc_5) (Ty_le (Gle_up Gle_rf) (Ty_le (gle_X6_init hc_2) (Ty_le (Gle_up Gle_rf) tx0)))))))) fl_X10_29 dX10_init_45 (fun H locs h => ?_)
  refine lv_aload_n C.1 C.2.1 dX10_init_48 rfl (lv_at hl 0 rfl) ?_
  refine h_new C h 5 rfl (by decide) rfl iw_X5 tyX5_ok (by decide +kernel) cl_X10_33 is_X5 ii_X5 (by decide) (by decide) dX10_init_49 (fun H locs h => ?_)
  have C0 := C
  have C := Cx_le (Gle_up (κ := 5) (n := 0) Gle_rf) C
  have tn_13 : Ty E (gN g_11 5 0) g_11.1 5 := Ty_new C0.2.2.2.2.2.2.2.2.2.1
  refine lv_dup C.1 C.2.1 dX10_init_52 rfl ?_
  obtain ⟨g_14, m_15, hc_14, hM⟩ := bg_some hM
  refine h_callN (host := RX10) C h (rest := [.ref g_11.1, .ref x0]) g_14 m_15 (c_X5_init hc_14 tn_13 C.2.2.2.2.2.2.2.2.2.1) rfl im_yX5_init cy_X5_init (by decide) ⟨by decide, by decide⟩ ⟨by decide, by decide⟩ hl.1 rfl (Nat.le_of_ble_eq_true rfl) dX10_init_53 (fun H locs h => ?_)
  have C := Cx_le (gle_X5_init hc_14) C
  refine st_some ?_
  refine pt_10_4 C h rfl rfl (fun b hb => by cases hb; exact (Ty_le (gle_X5_init hc_14) tn_13)) (Ty_le (gle_X5_init hc_14) (Ty_le (Gle_up Gle_rf) (Ty_le (gle_X3_init hc_11) (Ty_le (Gle_up Gle_rf) (Ty_le (gle_X8_init hc_8) (Ty_le (Gle_up Gle_rf) (Ty_le (gle_X6_init hc_5) (Ty_le (Gle_up Gle_rf) (Ty_le (gle_X6_init hc_2) (Ty_le (Gle_up Gle_rf) tx0)))))))))) fl_X10_36 dX10_init_56 (fun H locs h => ?_)
  refine lv_aload_n C.1 C.2.1 dX10_init_59 rfl (lv_at hl 0 rfl) ?_
  refine h_new C h 0 rfl (by decide) rfl iw_X0 tyX0_ok (by decide +kernel) cl_X10_40 is_X0 ii_X0 (by decide) (by decide) dX10_init_60 (fun H locs h => ?_)
  have C0 := C
  have C := Cx_le (Gle_up (κ := 0) (n := 0) Gle_rf) C
  have tn_16 : Ty E (gN g_14 0 0) g_14.1 0 := Ty_new C0.2.2.2.2.2.2.2.2.2.1
  refine lv_dup C.1 C.2.1 dX10_init_63 rfl ?_
  obtain ⟨g_17, m_18, hc_17, hM⟩ := bg_some hM
  refine h_callN (host := RX10) C h (rest := [.ref g_14.1, .ref x0]) g_17 m_18 (c_X0_init hc_17 tn_16 C.2.2.2.2.2.2.2.2.2.1) rfl im_yX0_init cy_X0_init (by decide) ⟨by decide, by decide⟩ ⟨by decide, by decide⟩ hl.1 rfl (Nat.le_of_ble_eq_true rfl) dX10_init_64 (fun H locs h => ?_)
  have C := Cx_le (gle_X0_init hc_17) C
  refine st_some ?_
  refine pt_10_5 C h rfl rfl (fun b hb => by cases hb; exact (Ty_le (gle_X0_init hc_17) tn_16)) (Ty_le (gle_X0_init hc_17) (Ty_le (Gle_up Gle_rf) (Ty_le (gle_X5_init hc_14) (Ty_le (Gle_up Gle_rf) (Ty_le (gle_X3_init hc_11) (Ty_le (Gle_up Gle_rf) (Ty_le (gle_X8_init hc_8) (Ty_le (Gle_up Gle_rf) (Ty_le (gle_X6_init hc_5) (Ty_le (Gle_up Gle_rf) (Ty_le (gle_X6_init hc_2) (Ty_le (Gle_up Gle_rf) tx0)))))))))))) fl_X10_43 dX10_init_67 (fun H locs h => ?_)
  refine lv_aload_n C.1 C.2.1 dX10_init_70 rfl (lv_at hl 0 rfl) ?_
  refine h_new C h 7 rfl (by decide) rfl iw_X7 tyX7_ok (by decide +kernel) cl_X10_47 is_X7 ii_X7 (by decide) (by decide) dX10_init_71 (fun H locs h => ?_)
  have C0 := C
  have C := Cx_le (Gle_up (κ := 7) (n := 0) Gle_rf) C
  have tn_19 : Ty E (gN g_17 7 0) g_17.1 7 := Ty_new C0.2.2.2.2.2.2.2.2.2.1
  refine lv_dup C.1 C.2.1 dX10_init_74 rfl ?_
  obtain ⟨g_20, m_21, hc_20, hM⟩ := bg_some hM
  refine h_callN (host := RX10) C h (rest := [.ref g_17.1, .ref x0]) g_20 m_21 (c_X7_init hc_20 tn_19 C.2.2.2.2.2.2.2.2.2.1) rfl im_yX7_init cy_X7_init (by decide) ⟨by decide, by decide⟩ ⟨by decide, by decide⟩ hl.1 rfl (Nat.le_of_ble_eq_true rfl) dX10_init_75 (fun H locs h => ?_)
  have C := Cx_le (gle_X7_init hc_20) C
  refine st_some ?_
  refine pt_10_6 C h rfl rfl (fun b hb => by cases hb; exact (Ty_le (gle_X7_init hc_20) tn_19)) (Ty_le (gle_X7_init hc_20) (Ty_le (Gle_up Gle_rf) (Ty_le (gle_X0_init hc_17) (Ty_le (Gle_up Gle_rf) (Ty_le (gle_X5_init hc_14) (Ty_le (Gle_up Gle_rf) (Ty_le (gle_X3_init hc_11) (Ty_le (Gle_up Gle_rf) (Ty_le (gle_X8_init hc_8) (Ty_le (Gle_up Gle_rf) (Ty_le (gle_X6_init hc_5) (Ty_le (Gle_up Gle_rf) (Ty_le (gle_X6_init hc_2) (Ty_le (Gle_up Gle_rf) tx0)))))))))))))) fl_X10_50 dX10_init_78 (fun H locs h => ?_)
  refine lv_aload_n C.1 C.2.1 dX10_init_81 rfl (lv_at hl 0 rfl) ?_
  refine lv_bipush (v := 12) C.1 C.2.1 dX10_init_82 (by decide) ?_
  refine h_newa C h 12 (by decide) (by decide) rfl ac_int 12 (by decide) (by decide) (by decide) (by decide) (by decide) dX10_init_84 (fun H locs h => ?_)
  have C0 := C
  have C := Cx_le (Gle_up (κ := 12) (n := 12) Gle_rf) C
  have tn_22 : Ty E (gN g_20 12 12) g_20.1 12 := Ty_new C0.2.2.2.2.2.2.2.2.2.1
  refine st_some ?_
  refine pt_10_7 C h rfl rfl (fun b hb => by cases hb; exact tn_22) (Ty_le (Gle_up Gle_rf) (Ty_le (gle_X7_init hc_20) (Ty_le (Gle_up Gle_rf) (Ty_le (gle_X0_init hc_17) (Ty_le (Gle_up Gle_rf) (Ty_le (gle_X5_init hc_14) (Ty_le (Gle_up Gle_rf) (Ty_le (gle_X3_init hc_11) (Ty_le (Gle_up Gle_rf) (Ty_le (gle_X8_init hc_8) (Ty_le (Gle_up Gle_rf) (Ty_le (gle_X6_init hc_5) (Ty_le (Gle_up Gle_rf) (Ty_le (gle_X6_init hc_2) (Ty_le (Gle_up Gle_rf) tx0))))))))))))))) fl_X10_54 dX10_init_86 (fun H locs h => ?_)
  refine lv_aload_n C.1 C.2.1 dX10_init_89 rfl (lv_at hl 0 rfl) ?_
  refine gt_10_0 C h (Ty_le (Gle_up Gle_rf) (Ty_le (gle_X7_init hc_20) (Ty_le (Gle_up Gle_rf) (Ty_le (gle_X0_init hc_17) (Ty_le (Gle_up Gle_rf) (Ty_le (gle_X5_init hc_14) (Ty_le (Gle_up Gle_rf) (Ty_le (gle_X3_init hc_11) (Ty_le (Gle_up Gle_rf) (Ty_le (gle_X8_init hc_8) (Ty_le (Gle_up Gle_rf) (Ty_le (gle_X6_init hc_5) (Ty_le (Gle_up Gle_rf) (Ty_le (gle_X6_init hc_2) (Ty_le (Gle_up Gle_rf) tx0))))))))))))))) fl_X10_10 dX10_init_90 ?_
  obtain ⟨b_23, hb_23, hM⟩ := nb_some hM
  have tb_23 : Ty E (gN g_20 12 12) b_23 6 := tyf h (Ty_le (Gle_up Gle_rf) (Ty_le (gle_X7_init hc_20) (Ty_le (Gle_up Gle_rf) (Ty_le (gle_X0_init hc_17) (Ty_le (Gle_up Gle_rf) (Ty_le (gle_X5_init hc_14) (Ty_le (Gle_up Gle_rf) (Ty_le (gle_X3_init hc_11) (Ty_le (Gle_up Gle_rf) (Ty_le (gle_X8_init hc_8) (Ty_le (Gle_up Gle_rf) (Ty_le (gle_X6_init hc_5) (Ty_le (Gle_up Gle_rf) (Ty_le (gle_X6_init hc_2) (Ty_le (Gle_up Gle_rf) tx0))))))))))))))) hb_23
  refine st_ref hb_23 ?_
  refine h_new C h 8 rfl (by decide) rfl iw_X8 tyX8_ok (by decide +kernel) cl_X10_19 is_X8 ii_X8 (by decide) (by decide) dX10_init_93 (fun H locs h => ?_)
  have C0 := C
  have C := Cx_le (Gle_up (κ := 8) (n := 0) Gle_rf) C
  have tn_24 : Ty E (gN (gN g_20 12 12) 8 0) (gN g_20 12 12).1 8 := Ty_new C0.2.2.2.2.2.2.2.2.2.1
  refine lv_dup C.1 C.2.1 dX10_init_96 rfl ?_
  obtain ⟨g_25, m_26, hc_25, hM⟩ := bg_some hM
  refine h_callN (host := RX10) C h (rest := [.ref ((gN g_20 12 12).1), .ref b_23]) g_25 m_26 (c_X8_init hc_25 tn_24 C.2.2.2.2.2.2.2.2.2.1) rfl im_yX8_init cy_X8_init (by decide) ⟨by decide, by decide⟩ ⟨by decide, by decide⟩ hl.1 rfl (Nat.le_of_ble_eq_true rfl) dX10_init_97 (fun H locs h => ?_)
  have C := Cx_le (gle_X8_init hc_25) C
  obtain ⟨r9, m_27, hc_27, hM⟩ := bd_some hM
  refine h_callVv C h (As := [.ref ((gN g_20 12 12).1)]) (rest := []) m_27 (c_X6_begin hc_27 (Ty_le (gle_X8_init hc_25) (Ty_le (Gle_up Gle_rf) tb_23)) (Ty_le (gle_X8_init hc_25) tn_24)) 6 rfl (by decide) (Ty_le (gle_X8_init hc_25) (Ty_le (Gle_up Gle_rf) tb_23)) im_yX6_begin se_yX6_begin cy_X6_begin rfl ml_X10_58 ⟨by decide, by decide⟩ ⟨by decide, by decide⟩ hl.1 rfl (Nat.le_of_ble_eq_true rfl) dX10_init_100 (fun H locs h => ?_)
  cases hM
  exact h_vret C h dX10_init_103
abbrev rmX11_init : Room := { frames := 1, cells := 52, slots := 54586, locals := 30 }
def K_X11_init (G : GG) (x0 : Nat) (m : MM) : Option (GG × MM) :=
  some ((gN (gN (gN (gN (gN (gN (gN (gN (gN (gN (gN (gN (gN (gN (gN (gN (gN (gN (gN (gN (gN (gN (gN (gN (gN (gN (gN (gN (gN (gN (gN (gN (gN (gN (gN (gN (gN (gN (gN (gN (gN (gN (gN (gN (gN (gN (gN (gN (gN (gN (gN (gN G 12 2000) 12 4000) 12 2) 12 16) 12 16) 12 16) 12 16) 12 16) 12 16) 12 16) 12 192) 12 192) 12 192) 12 192) 12 128) 12 128) 12 128) 12 128) 12 96) 12 96) 12 96) 12 96) 12 96) 12 2) 12 1040) 12 1040) 12 1040) 12 1040) 12 1040) 12 2) 12 4200) 12 4200) 12 4200) 12 4200) 12 4200) 12 4200) 12 4200) 12 16) 12 4200) 12 4200) 12 1100) 12 8) 12 96) 12 48) 12 8) 12 200) 12 30) 12 30) 12 30) 12 30) 12 2100) 12 12), sR (clr (sR (clr (sR (clr (sR (clr (sR (clr (sR (clr (sR (clr (sR (clr (sR (clr (sR (clr (sR (clr (sI (sR (clr (sR (clr (sR (clr (sR (clr (sR (clr (sR (clr (sR (clr (sR (clr (sR (clr (sR (clr (sR (clr (sR (clr (sR (clr (sR (clr (sR (clr (sR (clr (sR (clr (sR (clr (sR (clr (sR (clr (sR (clr (sR (clr (sR (clr (sR (clr (sR (clr (sR (clr (sR (clr (sR (clr (sR (clr (sR (clr (sR (clr (sR (clr (sR (clr (sR (clr (sR (clr (sR (clr (sR (clr (sR (clr (sR (clr (sR (clr (sR (clr m G.1) x0 0 (some G.1)) (gN G 12 2000).1) x0 2 (some ((gN G 12 2000).1))) (gN (gN G 12 2000) 12 4000).1) x0 6 (some ((gN (gN G 12 2000) 12 4000).1))) (gN (gN (gN G 12 2000) 12 4000) 12 2).1) x0 7 (some ((gN (gN (gN G 12 2000) 12 4000) 12 2).1))) (gN (gN (gN (gN G 12 2000) 12 4000) 12 2) 12 16).1) x0 8 (some ((gN (gN (gN (gN G 12 2000) 12 4000) 12 2) 12 16).1))) (gN (gN (gN (gN (gN G 12 2000) 12 4000) 12 2) 12 16) 12 16).1) x0 9 (some ((gN (gN (gN (gN (gN G 12 2000) 12 4000) 12 2) 12 16) 12 16).1))) (gN (gN (gN (gN (gN (gN G 12 2000) 12 4000) 12 2) 12 16) 12 16) 12 16).1) x0 10 (some ((gN (gN (gN (gN (gN (gN G 12 2000) 12 4000) 12 2) 12 16) 12 16) 12 16).1))) (gN (gN (gN (gN (gN (gN (gN G 12 2000) 12 4000) 12 2) 12 16) 12 16) 12 16) 12 16).1) x0 11 (some ((gN (gN (gN (gN (gN (gN (gN G 12 2000) 12 4000) 12 2) 12 16) 12 16) 12 16) 12 16).1))) (gN (gN (gN (gN (gN (gN (gN (gN G 12 2000) 12 4000) 12 2) 12 16) 12 16) 12 16) 12 16) 12 16).1) x0 12 (some ((gN (gN (gN (gN (gN (gN (gN (gN G 12 2000) 12 4000) 12 2) 12 16) 12 16) 12 16) 12 16) 12 16).1))) (gN (gN (gN (gN (gN (gN (gN (gN (gN G 12 2000) 12 4000) 12 2) 12 16) 12 16) 12 16) 12 16) 12 16) 12 16).1) x0 13 (some ((gN (gN (gN (gN (gN (gN (gN (gN (gN G 12 2000) 12 4000) 12 2) 12 16) 12 16) 12 16) 12 16) 12 16) 12 16).1))) (gN (gN (gN (gN (gN (gN (gN (gN (gN (gN G 12 2000) 12 4000) 12 2) 12 16) 12 16) 12 16) 12 16) 12 16) 12 16) 12 16).1) x0 14 (some ((gN (gN (gN (gN (gN (gN (gN (gN (gN (gN G 12 2000) 12 4000) 12 2) 12 16) 12 16) 12 16) 12 16) 12 16) 12 16) 12 16).1))) (gN (gN (gN (gN (gN (gN (gN (gN (gN (gN (gN G 12 2000) 12 4000) 12 2) 12 16) 12 16) 12 16) 12 16) 12 16) 12 16) 12 16) 12 192).1) x0 15 (some ((gN (gN (gN (gN (gN (gN (gN (gN (gN (gN (gN G 12 2000) 12 4000) 12 2) 12 16) 12 16) 12 16) 12 16) 12 16) 12 16) 12 16) 12 192).1))) (gN (gN (gN (gN (gN (gN (gN (gN (gN (gN (gN (gN G 12 2000) 12 4000) 12 2) 12 16) 12 16) 12 16) 12 16) 12 16) 12 16) 12 16) 12 192) 12 192).1) x0 16 (some ((gN (gN (gN (gN (gN (gN (gN (gN (gN (gN (gN (gN G 12 2000) 12 4000) 12 2) 12 16) 12 16) 12 16) 12 16) 12 16) 12 16) 12 16) 12 192) 12 192).1))) (gN (gN (gN (gN (gN (gN (gN (gN (gN (gN (gN (gN (gN G 12 2000) 12 4000) 12 2) 12 16) 12 16) 12 16) 12 16) 12 16) 12 16) 12 16) 12 192) 12 192) 12 192).1) x0 17 (some ((gN (gN (gN (gN (gN (gN (gN (gN (gN (gN (gN (gN (gN G 12 2000) 12 4000) 12 2) 12 16) 12 16) 12 16) 12 16) 12 16) 12 16) 12 16) 12 192) 12 192) 12 192).1))) (gN (gN (gN (gN (gN (gN (gN (gN (gN (gN (gN (gN (gN (gN G 12 2000) 12 4000) 12 2) 12 16) 12 16) 12 16) 12 16) 12 16) 12 16) 12 16) 12 192) 12 192) 12 192) 12 192).1) x0 18 (some ((gN (gN (gN (gN (gN (gN (gN (gN (gN (gN (gN (gN (gN (gN G 12 2000) 12 4000) 12 2) 12 16) 12 16) 12 16) 12 16) 12 16) 12 16) 12 16) 12 192) 12 192) 12 192) 12 192).1))) (gN (gN (gN (gN (gN (gN (gN (gN (gN (gN (gN (gN (gN (gN (gN G 12 2000) 12 4000) 12 2) 12 16) 12 16) 12 16) 12 16) 12 16) 12 16) 12 16) 12 192) 12 192) 12 192) 12 192) 12 128).1) x0 19 (some ((gN (gN (gN (gN (gN (gN (gN (gN (gN (gN (gN (gN (gN (gN (gN G 12 2000) 12 4000) 12 2) 12 16) 12 16) 12 16) 12 16) 12 16) 12 16) 12 16) 12 192) 12 192) 12 192) 12 192) 12 128).1))) (gN (gN (gN (gN (gN (gN (gN (gN (gN (gN (gN (gN (gN (gN (gN (gN G 12 2000) 12 4000) 12 2) 12 16) 12 16) 12 16) 12 16) 12 16) 12 16) 12 16) 12 192) 12 192) 12 192) 12 192) 12 128) 12 128).1) x0 20 (some ((gN (gN (gN (gN (gN (gN (gN (gN (gN (gN (gN (gN (gN (gN (gN (gN G 12 2000) 12 4000) 12 2) 12 16) 12 16) 12 16) 12 16) 12 16) 12 16) 12 16) 12 192) 12 192) 12 192) 12 192) 12 128) 12 128).1))) (gN (gN (gN (gN (gN (gN (gN (gN (gN (gN (gN (gN (gN (gN (gN (gN (gN G 12 2000) 12 4000) 12 2) 12 16) 12 16) 12 16) 12 16) 12 16) 12 16) 12 16) 12 192) 12 192) 12 192) 12 192) 12 128) 12 128) 12 128).1) x0 21 (some ((gN (gN (gN (gN (gN (gN (gN (gN (gN (gN (gN (gN (gN (gN (gN (gN (gN G 12 2000) 12 4000) 12 2) 12 16) 12 16) 12 16) 12 16) 12 16) 12 16) 12 16) 12 192) 12 192) 12 192) 12 192) 12 128) 12 128) 12 128).1))) (gN (gN (gN (gN (gN (gN (gN (gN (gN (gN (gN (gN (gN (gN (gN (gN (gN (gN G 12 2000) 12 4000) 12 2) 12 16) 12 16) 12 16) 12 16) 12 16) 12 16) 12 16) 12 192) 12 192) 12 192) 12 192) 12 128) 12 128) 12 128) 12 128).1) x0 22 (some ((gN (gN (gN (gN (gN (gN (gN (gN (gN (gN (gN (gN (gN (gN (gN (gN (gN (gN G 12 2000) 12 4000) 12 2) 12 16) 12 16) 12 16) 12 16) 12 16) 12 16) 12 16) 12 192) 12 192) 12 192) 12 192) 12 128) 12 128) 12 128) 12 128).1))) (gN (gN (gN (gN (gN (gN (gN (gN (gN (gN (gN (gN (gN (gN (gN (gN (gN (gN (gN G 12 2000) 12 4000) 12 2) 12 16) 12 16) 12 16) 12 16) 12 16) 12 16) 12 16) 12 192) 12 192) 12 192) 12 192) 12 128) 12 128) 12 128) 12 128) 12 96).1) x0 23 (some ((gN (gN (gN (gN (gN (gN (gN (gN (gN (gN (gN (gN (gN (gN (gN (gN (gN (gN (gN G 12 2000) 12 4000) 12 2) 12 16) 12 16) 12 16) 12 16) 12 16) 12 16) 12 16) 12 192) 12 192) 12 192) 12 192) 12 128) 12 128) 12 128) 12 128) 12 96).1))) (gN (gN (gN (gN (gN (gN (gN (gN (gN (gN (gN (gN (gN (gN (gN (gN (gN (gN (gN (gN G 12 2000) 12 4000) 12 2) 12 16) 12 16) 12 16) 12 16) 12 16) 12 16) 12 16) 12 192) 12 192) 12 192) 12 192) 12 128) 12 128) 12 128) 12 128) 12 96) 12 96).1) x0 24 (some ((gN (gN (gN (gN (gN (gN (gN (gN (gN (gN (gN (gN (gN (gN (gN (gN (gN (gN (gN (gN G 12 2000) 12 4000) 12 2) 12 16) 12 16) 12 16) 12 16) 12 16) 12 16) 12 16) 12 192) 12 192) 12 192) 12 192) 12 128) 12 128) 12 128) 12 128) 12 96) 12 96).1))) (gN (gN (gN (gN (gN (gN (gN (gN (gN (gN (gN (gN (gN (gN (gN (gN (gN (gN (gN (gN (gN G 12 2000) 12 4000) 12 2) 12 16) 12 16) 12 16) 12 16) 12 16) 12 16) 12 16) 12 192) 12 192) 12 192) 12 192) 12 128) 12 128) 12 128) 12 128) 12 96) 12 96) 12 96).1) x0 25 (some ((gN (gN (gN (gN (gN (gN (gN (gN (gN (gN (gN (gN (gN (gN (gN (gN (gN (gN (gN (gN (gN G 12 2000) 12 4000) 12 2) 12 16) 12 16) 12 16) 12 16) 12 16) 12 16) 12 16) 12 192) 12 192) 12 192) 12 192) 12 128) 12 128) 12 128) 12 128) 12 96) 12 96) 12 96).1))) (gN (gN (gN (gN (gN (gN (gN (gN (gN (gN (gN (gN (gN (gN (gN (gN (gN (gN (gN (gN (gN (gN G 12 2000) 12 4000) 12 2) 12 16) 12 16) 12 16) 12 16) 12 16) 12 16) 12 16) 12 192) 12 192) 12 192) 12 192) 12 128) 12 128) 12 128) 12 128) 12 96) 12 96) 12 96) 12 96).1) x0 26 (some ((gN (gN (gN (gN (gN (gN (gN (gN (gN (gN (gN (gN (gN (gN (gN (gN (gN (gN (gN (gN (gN (gN G 12 2000) 12 4000) 12 2) 12 16) 12 16) 12 16) 12 16) 12 16) 12 16) 12 16) 12 192) 12 192) 12 192) 12 192) 12 128) 12 128) 12 128) 12 128) 12 96) 12 96) 12 96) 12 96).1))) (gN (gN (gN (gN (gN (gN (gN (gN (gN (gN (gN (gN (gN (gN (gN (gN (gN (gN (gN (gN (gN (gN (gN G 12 2000) 12 4000) 12 2) 12 16) 12 16) 12 16) 12 16) 12 16) 12 16) 12 16) 12 192) 12 192) 12 192) 12 192) 12 128) 12 128) 12 128) 12 128) 12 96) 12 96) 12 96) 12 96) 12 96).1) x0 27 (some ((gN (gN (gN (gN (gN (gN (gN (gN (gN (gN (gN (gN (gN (gN (gN (gN (gN (gN (gN (gN (gN (gN (gN G 12 2000) 12 4000) 12 2) 12 16) 12 16) 12 16) 12 16) 12 16) 12 16) 12 16) 12 192) 12 192) 12 192) 12 192) 12 128) 12 128) 12 128) 12 128) 12 96) 12 96) 12 96) 12 96) 12 96).1))) (gN (gN (gN (gN (gN (gN (gN (gN (gN (gN (gN (gN (gN (gN (gN (gN (gN (gN (gN (gN (gN (gN (gN (gN G 12 2000) 12 4000) 12 2) 12 16) 12 16) 12 16) 12 16) 12 16) 12 16) 12 16) 12 192) 12 192) 12 192) 12 192) 12 128) 12 128) 12 128) 12 128) 12 96) 12 96) 12 96) 12 96) 12 96) 12 2).1) x0 28 (some ((gN (gN (gN (gN (gN (gN (gN (gN (gN (gN (gN (gN (gN (gN (gN (gN (gN (gN (gN (gN (gN (gN (gN (gN G 12 2000) 12 4000) 12 2) 12 16) 12 16) 12 16) 12 16) 12 16) 12 16) 12 16) 12 192) 12 192) 12 192) 12 192) 12 128) 12 128) 12 128) 12 128) 12 96) 12 96) 12 96) 12 96) 12 96) 12 2).1))) (gN (gN (gN (gN (gN (gN (gN (gN (gN (gN (gN (gN (gN (gN (gN (gN (gN (gN (gN (gN (gN (gN (gN (gN (gN G 12 2000) 12 4000) 12 2) 12 16) 12 16) 12 16) 12 16) 12 16) 12 16) 12 16) 12 192) 12 192) 12 192) 12 192) 12 128) 12 128) 12 128) 12 128) 12 96) 12 96) 12 96) 12 96) 12 96) 12 2) 12 1040).1) x0 29 (some ((gN (gN (gN (gN (gN (gN (gN (gN (gN (gN (gN (gN (gN (gN (gN (gN (gN (gN (gN (gN (gN (gN (gN (gN (gN G 12 2000) 12 4000) 12 2) 12 16) 12 16) 12 16) 12 16) 12 16) 12 16) 12 16) 12 192) 12 192) 12 192) 12 192) 12 128) 12 128) 12 128) 12 128) 12 96) 12 96) 12 96) 12 96) 12 96) 12 2) 12 1040).1))) (gN (gN (gN (gN (gN (gN (gN (gN (gN (gN (gN (gN (gN (gN (gN (gN (gN (gN (gN (gN (gN (gN (gN (gN (gN (gN G 12 2000) 12 4000) 12 2) 12 16) 12 16) 12 16) 12 16) 12 16) 12 16) 12 16) 12 192) 12 192) 12 192) 12 192) 12 128) 12 128) 12 128) 12 128) 12 96) 12 96) 12 96) 12 96) 12 96) 12 2) 12 1040) 12 1040).1) x0 30 (some ((gN (gN (gN (gN (gN (gN (gN (gN (gN (gN (gN (gN (gN (gN (gN (gN (gN (gN (gN (gN (gN (gN (gN (gN (gN (gN G 12 2000) 12 4000) 12 2) 12 16) 12 16) 12 16) 12 16) 12 16) 12 16) 12 16) 12 192) 12 192) 12 192) 12 192) 12 128) 12 128) 12 128) 12 128) 12 96) 12 96) 12 96) 12 96) 12 96) 12 2) 12 1040) 12 1040).1))) (gN (gN (gN (gN (gN (gN (gN (gN (gN (gN (gN (gN (gN (gN (gN (gN (gN (gN (gN (gN (gN (gN (gN (gN (gN (gN (gN G 12 2000) 12 4000) 12 2) 12 16) 12 16) 12 16) 12 16) 12 16) 12 16) 12 16) 12 192) 12 192) 12 192) 12 192) 12 128) 12 128) 12 128) 12 128) 12 96) 12 96) 12 96) 12 96) 12 96) 12 2) 12 1040) 12 1040) 12 1040).1) x0 31 (some ((gN (gN (gN (gN (gN (gN (gN (gN (gN (gN (gN (gN (gN (gN (gN (gN (gN (gN (gN (gN (gN (gN (gN (gN (gN (gN (gN G 12 2000) 12 4000) 12 2) 12 16) 12 16) 12 16) 12 16) 12 16) 12 16) 12 16) 12 192) 12 192) 12 192) 12 192) 12 128) 12 128) 12 128) 12 128) 12 96) 12 96) 12 96) 12 96) 12 96) 12 2) 12 1040) 12 1040) 12 1040).1))) (gN (gN (gN (gN (gN (gN (gN (gN (gN (gN (gN (gN (gN (gN (gN (gN (gN (gN (gN (gN (gN (gN (gN (gN (gN (gN (gN (gN G 12 2000) 12 4000) 12 2) 12 16) 12 16) 12 16) 12 16) 12 16) 12 16) 12 16) 12 192) 12 192) 12 192) 12 192) 12 128) 12 128) 12 128) 12 128) 12 96) 12 96) 12 96) 12 96) 12 96) 12 2) 12 1040) 12 1040) 12 1040) 12 1040).1) x0 32 (some ((gN (gN (gN (gN (gN (gN (gN (gN (gN (gN (gN (gN (gN (gN (gN (gN (gN (gN (gN (gN (gN (gN (gN (gN (gN (gN (gN (gN G 12 2000) 12 4000) 12 2) 12 16) 12 16) 12 16) 12 16) 12 16) 12 16) 12 16) 12 192) 12 192) 12 192) 12 192) 12 128) 12 128) 12 128) 12 128) 12 96) 12 96) 12 96) 12 96) 12 96) 12 2) 12 1040) 12 1040) 12 1040) 12 1040).1))) (gN (gN (gN (gN (gN (gN (gN (gN (gN (gN (gN (gN (gN (gN (gN (gN (gN (gN (gN (gN (gN (gN (gN (gN (gN (gN (gN (gN (gN G 12 2000) 12 4000) 12 2) 12 16) 12 16) 12 16) 12 16) 12 16) 12 16) 12 16) 12 192) 12 192) 12 192) 12 192) 12 128) 12 128) 12 128) 12 128) 12 96) 12 96) 12 96) 12 96) 12 96) 12 2) 12 1040) 12 1040) 12 1040) 12 1040) 12 1040).1) x0 33 (some ((gN (gN (gN (gN (gN (gN (gN (gN (gN (gN (gN (gN (gN (gN (gN (gN (gN (gN (gN (gN (gN (gN (gN (gN (gN (gN (gN (gN (gN G 12 2000) 12 4000) 12 2) 12 16) 12 16) 12 16) 12 16) 12 16) 12 16) 12 16) 12 192) 12 192) 12 192) 12 192) 12 128) 12 128) 12 128) 12 128) 12 96) 12 96) 12 96) 12 96) 12 96) 12 2) 12 1040) 12 1040) 12 1040) 12 1040) 12 1040).1))) (gN (gN (gN (gN (gN (gN (gN (gN (gN (gN (gN (gN (gN (gN (gN (gN (gN (gN (gN (gN (gN (gN (gN (gN (gN (gN (gN (gN (gN (gN G 12 2000) 12 4000) 12 2) 12 16) 12 16) 12 16) 12 16) 12 16) 12 16) 12 16) 12 192) 12 192) 12 192) 12 192) 12 128) 12 128) 12 128) 12 128) 12 96) 12 96) 12 96) 12 96) 12 96) 12 2) 12 1040) 12 1040) 12 1040) 12 1040) 12 1040) 12 2).1) x0 34 (some ((gN (gN (gN (gN (gN (gN (gN (gN (gN (gN (gN (gN (gN (gN (gN (gN (gN (gN (gN (gN (gN (gN (gN (gN (gN (gN (gN (gN (gN (gN G 12 2000) 12 4000) 12 2) 12 16) 12 16) 12 16) 12 16) 12 16) 12 16) 12 16) 12 192) 12 192) 12 192) 12 192) 12 128) 12 128) 12 128) 12 128) 12 96) 12 96) 12 96) 12 96) 12 96) 12 2) 12 1040) 12 1040) 12 1040) 12 1040) 12 1040) 12 2).1))) (gN (gN (gN (gN (gN (gN (gN (gN (gN (gN (gN (gN (gN (gN (gN (gN (gN (gN (gN (gN (gN (gN (gN (gN (gN (gN (gN (gN (gN (gN (gN G 12 2000) 12 4000) 12 2) 12 16) 12 16) 12 16) 12 16) 12 16) 12 16) 12 16) 12 192) 12 192) 12 192) 12 192) 12 128) 12 128) 12 128) 12 128) 12 96) 12 96) 12 96) 12 96) 12 96) 12 2) 12 1040) 12 1040) 12 1040) 12 1040) 12 1040) 12 2) 12 4200).1) x0 35 (some ((gN (gN (gN (gN (gN (gN (gN (gN (gN (gN (gN (gN (gN (gN (gN (gN (gN (gN (gN (gN (gN (gN (gN (gN (gN (gN (gN (gN (gN (gN (gN G 12 2000) 12 4000) 12 2) 12 16) 12 16) 12 16) 12 16) 12 16) 12 16) 12 16) 12 192) 12 192) 12 192) 12 192) 12 128) 12 128) 12 128) 12 128) 12 96) 12 96) 12 96) 12 96) 12 96) 12 2) 12 1040) 12 1040) 12 1040) 12 1040) 12 1040) 12 2) 12 4200).1))) (gN (gN (gN (gN (gN (gN (gN (gN (gN (gN (gN (gN (gN (gN (gN (gN (gN (gN (gN (gN (gN (gN (gN (gN (gN (gN (gN (gN (gN (gN (gN (gN G 12 2000) 12 4000) 12 2) 12 16) 12 16) 12 16) 12 16) 12 16) 12 16) 12 16) 12 192) 12 192) 12 192) 12 192) 12 128) 12 128) 12 128) 12 128) 12 96) 12 96) 12 96) 12 96) 12 96) 12 2) 12 1040) 12 1040) 12 1040) 12 1040) 12 1040) 12 2) 12 4200) 12 4200).1) x0 36 (some ((gN (gN (gN (gN (gN (gN (gN (gN (gN (gN (gN (gN (gN (gN (gN (gN (gN (gN (gN (gN (gN (gN (gN (gN (gN (gN (gN (gN (gN (gN (gN (gN G 12 2000) 12 4000) 12 2) 12 16) 12 16) 12 16) 12 16) 12 16) 12 16) 12 16) 12 192) 12 192) 12 192) 12 192) 12 128) 12 128) 12 128) 12 128) 12 96) 12 96) 12 96) 12 96) 12 96) 12 2) 12 1040) 12 1040) 12 1040) 12 1040) 12 1040) 12 2) 12 4200) 12 4200).1))) (gN (gN (gN (gN (gN (gN (gN (gN (gN (gN (gN (gN (gN (gN (gN (gN (gN (gN (gN (gN (gN (gN (gN (gN (gN (gN (gN (gN (gN (gN (gN (gN (gN G 12 2000) 12 4000) 12 2) 12 16) 12 16) 12 16) 12 16) 12 16) 12 16) 12 16) 12 192) 12 192) 12 192) 12 192) 12 128) 12 128) 12 128) 12 128) 12 96) 12 96) 12 96) 12 96) 12 96) 12 2) 12 1040) 12 1040) 12 1040) 12 1040) 12 1040) 12 2) 12 4200) 12 4200) 12 4200).1) x0 37 (some ((gN (gN (gN (gN (gN (gN (gN (gN (gN (gN (gN (gN (gN (gN (gN (gN (gN (gN (gN (gN (gN (gN (gN (gN (gN (gN (gN (gN (gN (gN (gN (gN (gN G 12 2000) 12 4000) 12 2) 12 16) 12 16) 12 16) 12 16) 12 16) 12 16) 12 16) 12 192) 12 192) 12 192) 12 192) 12 128) 12 128) 12 128) 12 128) 12 96) 12 96) 12 96) 12 96) 12 96) 12 2) 12 1040) 12 1040) 12 1040) 12 1040) 12 1040) 12 2) 12 4200) 12 4200) 12 4200).1))) (gN (gN (gN (gN (gN (gN (gN (gN (gN (gN (gN (gN (gN (gN (gN (gN (gN (gN (gN (gN (gN (gN (gN (gN (gN (gN (gN (gN (gN (gN (gN (gN (gN (gN G 12 2000) 12 4000) 12 2) 12 16) 12 16) 12 16) 12 16) 12 16) 12 16) 12 16) 12 192) 12 192) 12 192) 12 192) 12 128) 12 128) 12 128) 12 128) 12 96) 12 96) 12 96) 12 96) 12 96) 12 2) 12 1040) 12 1040) 12 1040) 12 1040) 12 1040) 12 2) 12 4200) 12 4200) 12 4200) 12 4200).1) x0 38 (some ((gN (gN (gN (gN (gN (gN (gN (gN (gN (gN (gN (gN (gN (gN (gN (gN (gN (gN (gN (gN (gN (gN (gN (gN (gN (gN (gN (gN (gN (gN (gN (gN (gN (gN G 12 2000) 12 4000) 12 2) 12 16) 12 16) 12 16) 12 16) 12 16) 12 16) 12 16) 12 192) 12 192) 12 192) 12 192) 12 128) 12 128) 12 128) 12 128) 12 96) 12 96) 12 96) 12 96) 12 96) 12 2) 12 1040) 12 1040) 12 1040) 12 1040) 12 1040) 12 2) 12 4200) 12 4200) 12 4200) 12 4200).1))) (gN (gN (gN (gN (gN (gN (gN (gN (gN (gN (gN (gN (gN (gN (gN (gN (gN (gN (gN (gN (gN (gN (gN (gN (gN (gN (gN (gN (gN (gN (gN (gN (gN (gN (gN G 12 2000) 12 4000) 12 2) 12 16) 12 16) 12 16) 12 16) 12 16) 12 16) 12 16) 12 192) 12 192) 12 192) 12 192) 12 128) 12 128) 12 128) 12 128) 12 96) 12 96) 12 96) 12 96) 12 96) 12 2) 12 1040) 12 1040) 12 1040) 12 1040) 12 1040) 12 2) 12 4200) 12 4200) 12 4200) 12 4200) 12 4200).1) x0 39 (some ((gN (gN (gN (gN (gN (gN (gN (gN (gN (gN (gN (gN (gN (gN (gN (gN (gN (gN (gN (gN (gN (gN (gN (gN (gN (gN (gN (gN (gN (gN (gN (gN (gN (gN (gN G 12 2000) 12 4000) 12 2) 12 16) 12 16) 12 16) 12 16) 12 16) 12 16) 12 16) 12 192) 12 192) 12 192) 12 192) 12 128) 12 128) 12 128) 12 128) 12 96) 12 96) 12 96) 12 96) 12 96) 12 2) 12 1040) 12 1040) 12 1040) 12 1040) 12 1040) 12 2) 12 4200) 12 4200) 12 4200) 12 4200) 12 4200).1))) (gN (gN (gN (gN (gN (gN (gN (gN (gN (gN (gN (gN (gN (gN (gN (gN (gN (gN (gN (gN (gN (gN (gN (gN (gN (gN (gN (gN (gN (gN (gN (gN (gN (gN (gN (gN G 12 2000) 12 4000) 12 2) 12 16) 12 16) 12 16) 12 16) 12 16) 12 16) 12 16) 12 192) 12 192) 12 192) 12 192) 12 128) 12 128) 12 128) 12 128) 12 96) 12 96) 12 96) 12 96) 12 96) 12 2) 12 1040) 12 1040) 12 1040) 12 1040) 12 1040) 12 2) 12 4200) 12 4200) 12 4200) 12 4200) 12 4200) 12 4200).1) x0 40 (some ((gN (gN (gN (gN (gN (gN (gN (gN (gN (gN (gN (gN (gN (gN (gN (gN (gN (gN (gN (gN (gN (gN (gN (gN (gN (gN (gN (gN (gN (gN (gN (gN (gN (gN (gN (gN G 12 2000) 12 4000) 12 2) 12 16) 12 16) 12 16) 12 16) 12 16) 12 16) 12 16) 12 192) 12 192) 12 192) 12 192) 12 128) 12 128) 12 128) 12 128) 12 96) 12 96) 12 96) 12 96) 12 96) 12 2) 12 1040) 12 1040) 12 1040) 12 1040) 12 1040) 12 2) 12 4200) 12 4200) 12 4200) 12 4200) 12 4200) 12 4200).1))) (gN (gN (gN (gN (gN (gN (gN (gN (gN (gN (gN (gN (gN (gN (gN (gN (gN (gN (gN (gN (gN (gN (gN (gN (gN (gN (gN (gN (gN (gN (gN (gN (gN (gN (gN (gN (gN G 12 2000) 12 4000) 12 2) 12 16) 12 16) 12 16) 12 16) 12 16) 12 16) 12 16) 12 192) 12 192) 12 192) 12 192) 12 128) 12 128) 12 128) 12 128) 12 96) 12 96) 12 96) 12 96) 12 96) 12 2) 12 1040) 12 1040) 12 1040) 12 1040) 12 1040) 12 2) 12 4200) 12 4200) 12 4200) 12 4200) 12 4200) 12 4200) 12 4200).1) x0 49 (some ((gN (gN (gN (gN (gN (gN (gN (gN (gN (gN (gN (gN (gN (gN (gN (gN (gN (gN (gN (gN (gN (gN (gN (gN (gN (gN (gN (gN (gN (gN (gN (gN (gN (gN (gN (gN (gN G 12 2000) 12 4000) 12 2) 12 16) 12 16) 12 16) 12 16) 12 16) 12 16) 12 16) 12 192) 12 192) 12 192) 12 192) 12 128) 12 128) 12 128) 12 128) 12 96) 12 96) 12 96) 12 96) 12 96) 12 2) 12 1040) 12 1040) 12 1040) 12 1040) 12 1040) 12 2) 12 4200) 12 4200) 12 4200) 12 4200) 12 4200) 12 4200) 12 4200).1))) (gN (gN (gN (gN (gN (gN (gN (gN (gN (gN (gN (gN (gN (gN (gN (gN (gN (gN (gN (gN (gN (gN (gN (gN (gN (gN (gN (gN (gN (gN (gN (gN (gN (gN (gN (gN (gN (gN G 12 2000) 12 4000) 12 2) 12 16) 12 16) 12 16) 12 16) 12 16) 12 16) 12 16) 12 192) 12 192) 12 192) 12 192) 12 128) 12 128) 12 128) 12 128) 12 96) 12 96) 12 96) 12 96) 12 96) 12 2) 12 1040) 12 1040) 12 1040) 12 1040) 12 1040) 12 2) 12 4200) 12 4200) 12 4200) 12 4200) 12 4200) 12 4200) 12 4200) 12 16).1) x0 50 (some ((gN (gN (gN (gN (gN (gN (gN (gN (gN (gN (gN (gN (gN (gN (gN (gN (gN (gN (gN (gN (gN (gN (gN (gN (gN (gN (gN (gN (gN (gN (gN (gN (gN (gN (gN (gN (gN (gN G 12 2000) 12 4000) 12 2) 12 16) 12 16) 12 16) 12 16) 12 16) 12 16) 12 16) 12 192) 12 192) 12 192) 12 192) 12 128) 12 128) 12 128) 12 128) 12 96) 12 96) 12 96) 12 96) 12 96) 12 2) 12 1040) 12 1040) 12 1040) 12 1040) 12 1040) 12 2) 12 4200) 12 4200) 12 4200) 12 4200) 12 4200) 12 4200) 12 4200) 12 16).1))) (gN (gN (gN (gN (gN (gN (gN (gN (gN (gN (gN (gN (gN (gN (gN (gN (gN (gN (gN (gN (gN (gN (gN (gN (gN (gN (gN (gN (gN (gN (gN (gN (gN (gN (gN (gN (gN (gN (gN G 12 2000) 12 4000) 12 2) 12 16) 12 16) 12 16) 12 16) 12 16) 12 16) 12 16) 12 192) 12 192) 12 192) 12 192) 12 128) 12 128) 12 128) 12 128) 12 96) 12 96) 12 96) 12 96) 12 96) 12 2) 12 1040) 12 1040) 12 1040) 12 1040) 12 1040) 12 2) 12 4200) 12 4200) 12 4200) 12 4200) 12 4200) 12 4200) 12 4200) 12 16) 12 4200).1) x0 51 (some ((gN (gN (gN (gN (gN (gN (gN (gN (gN (gN (gN (gN (gN (gN (gN (gN (gN (gN (gN (gN (gN (gN (gN (gN (gN (gN (gN (gN (gN (gN (gN (gN (gN (gN (gN (gN (gN (gN (gN G 12 2000) 12 4000) 12 2) 12 16) 12 16) 12 16) 12 16) 12 16) 12 16) 12 16) 12 192) 12 192) 12 192) 12 192) 12 128) 12 128) 12 128) 12 128) 12 96) 12 96) 12 96) 12 96) 12 96) 12 2) 12 1040) 12 1040) 12 1040) 12 1040) 12 1040) 12 2) 12 4200) 12 4200) 12 4200) 12 4200) 12 4200) 12 4200) 12 4200) 12 16) 12 4200).1))) (gN (gN (gN (gN (gN (gN (gN (gN (gN (gN (gN (gN (gN (gN (gN (gN (gN (gN (gN (gN (gN (gN (gN (gN (gN (gN (gN (gN (gN (gN (gN (gN (gN (gN (gN (gN (gN (gN (gN (gN G 12 2000) 12 4000) 12 2) 12 16) 12 16) 12 16) 12 16) 12 16) 12 16) 12 16) 12 192) 12 192) 12 192) 12 192) 12 128) 12 128) 12 128) 12 128) 12 96) 12 96) 12 96) 12 96) 12 96) 12 2) 12 1040) 12 1040) 12 1040) 12 1040) 12 1040) 12 2) 12 4200) 12 4200) 12 4200) 12 4200) 12 4200) 12 4200) 12 4200) 12 16) 12 4200) 12 4200).1) x0 52 (some ((gN (gN (gN (gN (gN (gN (gN (gN (gN (gN (gN (gN (gN (gN (gN (gN (gN (gN (gN (gN (gN (gN (gN (gN (gN (gN (gN (gN (gN (gN (gN (gN (gN (gN (gN (gN (gN (gN (gN (gN G 12 2000) 12 4000) 12 2) 12 16) 12 16) 12 16) 12 16) 12 16) 12 16) 12 16) 12 192) 12 192) 12 192) 12 192) 12 128) 12 128) 12 128) 12 128) 12 96) 12 96) 12 96) 12 96) 12 96) 12 2) 12 1040) 12 1040) 12 1040) 12 1040) 12 1040) 12 2) 12 4200) 12 4200) 12 4200) 12 4200) 12 4200) 12 4200) 12 4200) 12 16) 12 4200) 12 4200).1))) x0 55 (-1000009)) (gN (gN (gN (gN (gN (gN (gN (gN (gN (gN (gN (gN (gN (gN (gN (gN (gN (gN (gN (gN (gN (gN (gN (gN (gN (gN (gN (gN (gN (gN (gN (gN (gN (gN (gN (gN (gN (gN (gN (gN (gN G 12 2000) 12 4000) 12 2) 12 16) 12 16) 12 16) 12 16) 12 16) 12 16) 12 16) 12 192) 12 192) 12 192) 12 192) 12 128) 12 128) 12 128) 12 128) 12 96) 12 96) 12 96) 12 96) 12 96) 12 2) 12 1040) 12 1040) 12 1040) 12 1040) 12 1040) 12 2) 12 4200) 12 4200) 12 4200) 12 4200) 12 4200) 12 4200) 12 4200) 12 16) 12 4200) 12 4200) 12 1100).1) x0 56 (some ((gN (gN (gN (gN (gN (gN (gN (gN (gN (gN (gN (gN (gN (gN (gN (gN (gN (gN (gN (gN (gN (gN (gN (gN (gN (gN (gN (gN (gN (gN (gN (gN (gN (gN (gN (gN (gN (gN (gN (gN (gN G 12 2000) 12 4000) 12 2) 12 16) 12 16) 12 16) 12 16) 12 16) 12 16) 12 16) 12 192) 12 192) 12 192) 12 192) 12 128) 12 128) 12 128) 12 128) 12 96) 12 96) 12 96) 12 96) 12 96) 12 2) 12 1040) 12 1040) 12 1040) 12 1040) 12 1040) 12 2) 12 4200) 12 4200) 12 4200) 12 4200) 12 4200) 12 4200) 12 4200) 12 16) 12 4200) 12 4200) 12 1100).1))) (gN (gN (gN (gN (gN (gN (gN (gN (gN (gN (gN (gN (gN (gN (gN (gN (gN (gN (gN (gN (gN (gN (gN (gN (gN (gN (gN (gN (gN (gN (gN (gN (gN (gN (gN (gN (gN (gN (gN (gN (gN (gN G 12 2000) 12 4000) 12 2) 12 16) 12 16) 12 16) 12 16) 12 16) 12 16) 12 16) 12 192) 12 192) 12 192) 12 192) 12 128) 12 128) 12 128) 12 128) 12 96) 12 96) 12 96) 12 96) 12 96) 12 2) 12 1040) 12 1040) 12 1040) 12 1040) 12 1040) 12 2) 12 4200) 12 4200) 12 4200) 12 4200) 12 4200) 12 4200) 12 4200) 12 16) 12 4200) 12 4200) 12 1100) 12 8).1) x0 57 (some ((gN (gN (gN (gN (gN (gN (gN (gN (gN (gN (gN (gN (gN (gN (gN (gN (gN (gN (gN (gN (gN (gN (gN (gN (gN (gN (gN (gN (gN (gN (gN (gN (gN (gN (gN (gN (gN (gN (gN (gN (gN (gN G 12 2000) 12 4000) 12 2) 12 16) 12 16) 12 16) 12 16) 12 16) 12 16) 12 16) 12 192) 12 192) 12 192) 12 192) 12 128) 12 128) 12 128) 12 128) 12 96) 12 96) 12 96) 12 96) 12 96) 12 2) 12 1040) 12 1040) 12 1040) 12 1040) 12 1040) 12 2) 12 4200) 12 4200) 12 4200) 12 4200) 12 4200) 12 4200) 12 4200) 12 16) 12 4200) 12 4200) 12 1100) 12 8).1))) (gN (gN (gN (gN (gN (gN (gN (gN (gN (gN (gN (gN (gN (gN (gN (gN (gN (gN (gN (gN (gN (gN (gN (gN (gN (gN (gN (gN (gN (gN (gN (gN (gN (gN (gN (gN (gN (gN (gN (gN (gN (gN (gN G 12 2000) 12 4000) 12 2) 12 16) 12 16) 12 16) 12 16) 12 16) 12 16) 12 16) 12 192) 12 192) 12 192) 12 192) 12 128) 12 128) 12 128) 12 128) 12 96) 12 96) 12 96) 12 96) 12 96) 12 2) 12 1040) 12 1040) 12 1040) 12 1040) 12 1040) 12 2) 12 4200) 12 4200) 12 4200) 12 4200) 12 4200) 12 4200) 12 4200) 12 16) 12 4200) 12 4200) 12 1100) 12 8) 12 96).1) x0 58 (some ((gN (gN (gN (gN (gN (gN (gN (gN (gN (gN (gN (gN (gN (gN (gN (gN (gN (gN (gN (gN (gN (gN (gN (gN (gN (gN (gN (gN (gN (gN (gN (gN (gN (gN (gN (gN (gN (gN (gN (gN (gN (gN (gN G 12 2000) 12 4000) 12 2) 12 16) 12 16) 12 16) 12 16) 12 16) 12 16) 12 16) 12 192) 12 192) 12 192) 12 192) 12 128) 12 128) 12 128) 12 128) 12 96) 12 96) 12 96) 12 96) 12 96) 12 2) 12 1040) 12 1040) 12 1040) 12 1040) 12 1040) 12 2) 12 4200) 12 4200) 12 4200) 12 4200) 12 4200) 12 4200) 12 4200) 12 16) 12 4200) 12 4200) 12 1100) 12 8) 12 96).1))) (gN (gN (gN (gN (gN (gN (gN (gN (gN (gN (gN (gN (gN (gN (gN (gN (gN (gN (gN (gN (gN (gN (gN (gN (gN (gN (gN (gN (gN (gN (gN (gN (gN (gN (gN (gN (gN (gN (gN (gN (gN (gN (gN (gN G 12 2000) 12 4000) 12 2) 12 16) 12 16) 12 16) 12 16) 12 16) 12 16) 12 16) 12 192) 12 192) 12 192) 12 192) 12 128) 12 128) 12 128) 12 128) 12 96) 12 96) 12 96) 12 96) 12 96) 12 2) 12 1040) 12 1040) 12 1040) 12 1040) 12 1040) 12 2) 12 4200) 12 4200) 12 4200) 12 4200) 12 4200) 12 4200) 12 4200) 12 16) 12 4200) 12 4200) 12 1100) 12 8) 12 96) 12 48).1) x0 59 (some ((gN (gN (gN (gN (gN (gN (gN (gN (gN (gN (gN (gN (gN (gN (gN (gN (gN (gN (gN (gN (gN (gN (gN (gN (gN (gN (gN (gN (gN (gN (gN (gN (gN (gN (gN (gN (gN (gN (gN (gN (gN (gN (gN (gN G 12 2000) 12 4000) 12 2) 12 16) 12 16) 12 16) 12 16) 12 16) 12 16) 12 16) 12 192) 12 192) 12 192) 12 192) 12 128) 12 128) 12 128) 12 128) 12 96) 12 96) 12 96) 12 96) 12 96) 12 2) 12 1040) 12 1040) 12 1040) 12 1040) 12 1040) 12 2) 12 4200) 12 4200) 12 4200) 12 4200) 12 4200) 12 4200) 12 4200) 12 16) 12 4200) 12 4200) 12 1100) 12 8) 12 96) 12 48).1))) (gN (gN (gN (gN (gN (gN (gN (gN (gN (gN (gN (gN (gN (gN (gN (gN (gN (gN (gN (gN (gN (gN (gN (gN (gN (gN (gN (gN (gN (gN (gN (gN (gN (gN (gN (gN (gN (gN (gN (gN (gN (gN (gN (gN (gN G 12 2000) 12 4000) 12 2) 12 16) 12 16) 12 16) 12 16) 12 16) 12 16) 12 16) 12 192) 12 192) 12 192) 12 192) 12 128) 12 128) 12 128) 12 128) 12 96) 12 96) 12 96) 12 96) 12 96) 12 2) 12 1040) 12 1040) 12 1040) 12 1040) 12 1040) 12 2) 12 4200) 12 4200) 12 4200) 12 4200) 12 4200) 12 4200) 12 4200) 12 16) 12 4200) 12 4200) 12 1100) 12 8) 12 96) 12 48) 12 8).1) x0 60 (some ((gN (gN (gN (gN (gN (gN (gN (gN (gN (gN (gN (gN (gN (gN (gN (gN (gN (gN (gN (gN (gN (gN (gN (gN (gN (gN (gN (gN (gN (gN (gN (gN (gN (gN (gN (gN (gN (gN (gN (gN (gN (gN (gN (gN (gN G 12 2000) 12 4000) 12 2) 12 16) 12 16) 12 16) 12 16) 12 16) 12 16) 12 16) 12 192) 12 192) 12 192) 12 192) 12 128) 12 128) 12 128) 12 128) 12 96) 12 96) 12 96) 12 96) 12 96) 12 2) 12 1040) 12 1040) 12 1040) 12 1040) 12 1040) 12 2) 12 4200) 12 4200) 12 4200) 12 4200) 12 4200) 12 4200) 12 4200) 12 16) 12 4200) 12 4200) 12 1100) 12 8) 12 96) 12 48) 12 8).1))) (gN (gN (gN (gN (gN (gN (gN (gN (gN (gN (gN (gN (gN (gN (gN (gN (gN (gN (gN (gN (gN (gN (gN (gN (gN (gN (gN (gN (gN (gN (gN (gN (gN (gN (gN (gN (gN (gN (gN (gN (gN (gN (gN (gN (gN (gN G 12 2000) 12 4000) 12 2) 12 16) 12 16) 12 16) 12 16) 12 16) 12 16) 12 16) 12 192) 12 192) 12 192) 12 192) 12 128) 12 128) 12 128) 12 128) 12 96) 12 96) 12 96) 12 96) 12 96) 12 2) 12 1040) 12 1040) 12 1040) 12 1040) 12 1040) 12 2) 12 4200) 12 4200) 12 4200) 12 4200) 12 4200) 12 4200) 12 4200) 12 16) 12 4200) 12 4200) 12 1100) 12 8) 12 96) 12 48) 12 8) 12 200).1) x0 65 (some ((gN (gN (gN (gN (gN (gN (gN (gN (gN (gN (gN (gN (gN (gN (gN (gN (gN (gN (gN (gN (gN (gN (gN (gN (gN (gN (gN (gN (gN (gN (gN (gN (gN (gN (gN (gN (gN (gN (gN (gN (gN (gN (gN (gN (gN (gN G 12 2000) 12 4000) 12 2) 12 16) 12 16) 12 16) 12 16) 12 16) 12 16) 12 16) 12 192) 12 192) 12 192) 12 192) 12 128) 12 128) 12 128) 12 128) 12 96) 12 96) 12 96) 12 96) 12 96) 12 2) 12 1040) 12 1040) 12 1040) 12 1040) 12 1040) 12 2) 12 4200) 12 4200) 12 4200) 12 4200) 12 4200) 12 4200) 12 4200) 12 16) 12 4200) 12 4200) 12 1100) 12 8) 12 96) 12 48) 12 8) 12 200).1))) (gN (gN (gN (gN (gN (gN (gN (gN (gN (gN (gN (gN (gN (gN (gN (gN (gN (gN (gN (gN (gN (gN (gN (gN (gN (gN (gN (gN (gN (gN (gN (gN (gN (gN (gN (gN (gN (gN (gN (gN (gN (gN (gN (gN (gN (gN (gN G 12 2000) 12 4000) 12 2) 12 16) 12 16) 12 16) 12 16) 12 16) 12 16) 12 16) 12 192) 12 192) 12 192) 12 192) 12 128) 12 128) 12 128) 12 128) 12 96) 12 96) 12 96) 12 96) 12 96) 12 2) 12 1040) 12 1040) 12 1040) 12 1040) 12 1040) 12 2) 12 4200) 12 4200) 12 4200) 12 4200) 12 4200) 12 4200) 12 4200) 12 16) 12 4200) 12 4200) 12 1100) 12 8) 12 96) 12 48) 12 8) 12 200) 12 30).1) x0 66 (some ((gN (gN (gN (gN (gN (gN (gN (gN (gN (gN (gN (gN (gN (gN (gN (gN (gN (gN (gN (gN (gN (gN (gN (gN (gN (gN (gN (gN (gN (gN (gN (gN (gN (gN (gN (gN (gN (gN (gN (gN (gN (gN (gN (gN (gN (gN (gN G 12 2000) 12 4000) 12 2) 12 16) 12 16) 12 16) 12 16) 12 16) 12 16) 12 16) 12 192) 12 192) 12 192) 12 192) 12 128) 12 128) 12 128) 12 128) 12 96) 12 96) 12 96) 12 96) 12 96) 12 2) 12 1040) 12 1040) 12 1040) 12 1040) 12 1040) 12 2) 12 4200) 12 4200) 12 4200) 12 4200) 12 4200) 12 4200) 12 4200) 12 16) 12 4200) 12 4200) 12 1100) 12 8) 12 96) 12 48) 12 8) 12 200) 12 30).1))) (gN (gN (gN (gN (gN (gN (gN (gN (gN (gN (gN (gN (gN (gN (gN (gN (gN (gN (gN (gN (gN (gN (gN (gN (gN (gN (gN (gN (gN (gN (gN (gN (gN (gN (gN (gN (gN (gN (gN (gN (gN (gN (gN (gN (gN (gN (gN (gN G 12 2000) 12 4000) 12 2) 12 16) 12 16) 12 16) 12 16) 12 16) 12 16) 12 16) 12 192) 12 192) 12 192) 12 192) 12 128) 12 128) 12 128) 12 128) 12 96) 12 96) 12 96) 12 96) 12 96) 12 2) 12 1040) 12 1040) 12 1040) 12 1040) 12 1040) 12 2) 12 4200) 12 4200) 12 4200) 12 4200) 12 4200) 12 4200) 12 4200) 12 16) 12 4200) 12 4200) 12 1100) 12 8) 12 96) 12 48) 12 8) 12 200) 12 30) 12 30).1) x0 67 (some ((gN (gN (gN (gN (gN (gN (gN (gN (gN (gN (gN (gN (gN (gN (gN (gN (gN (gN (gN (gN (gN (gN (gN (gN (gN (gN (gN (gN (gN (gN (gN (gN (gN (gN (gN (gN (gN (gN (gN (gN (gN (gN (gN (gN (gN (gN (gN (gN G 12 2000) 12 4000) 12 2) 12 16) 12 16) 12 16) 12 16) 12 16) 12 16) 12 16) 12 192) 12 192) 12 192) 12 192) 12 128) 12 128) 12 128) 12 128) 12 96) 12 96) 12 96) 12 96) 12 96) 12 2) 12 1040) 12 1040) 12 1040) 12 1040) 12 1040) 12 2) 12 4200) 12 4200) 12 4200) 12 4200) 12 4200) 12 4200) 12 4200) 12 16) 12 4200) 12 4200) 12 1100) 12 8) 12 96) 12 48) 12 8) 12 200) 12 30) 12 30).1))) (gN (gN (gN (gN (gN (gN (gN (gN (gN (gN (gN (gN (gN (gN (gN (gN (gN (gN (gN (gN (gN (gN (gN (gN (gN (gN (gN (gN (gN (gN (gN (gN (gN (gN (gN (gN (gN (gN (gN (gN (gN (gN (gN (gN (gN (gN (gN (gN (gN G 12 2000) 12 4000) 12 2) 12 16) 12 16) 12 16) 12 16) 12 16) 12 16) 12 16) 12 192) 12 192) 12 192) 12 192) 12 128) 12 128) 12 128) 12 128) 12 96) 12 96) 12 96) 12 96) 12 96) 12 2) 12 1040) 12 1040) 12 1040) 12 1040) 12 1040) 12 2) 12 4200) 12 4200) 12 4200) 12 4200) 12 4200) 12 4200) 12 4200) 12 16) 12 4200) 12 4200) 12 1100) 12 8) 12 96) 12 48) 12 8) 12 200) 12 30) 12 30) 12 30).1) x0 68 (some ((gN (gN (gN (gN (gN (gN (gN (gN (gN (gN (gN (gN (gN (gN (gN (gN (gN (gN (gN (gN (gN (gN (gN (gN (gN (gN (gN (gN (gN (gN (gN (gN (gN (gN (gN (gN (gN (gN (gN (gN (gN (gN (gN (gN (gN (gN (gN (gN (gN G 12 2000) 12 4000) 12 2) 12 16) 12 16) 12 16) 12 16) 12 16) 12 16) 12 16) 12 192) 12 192) 12 192) 12 192) 12 128) 12 128) 12 128) 12 128) 12 96) 12 96) 12 96) 12 96) 12 96) 12 2) 12 1040) 12 1040) 12 1040) 12 1040) 12 1040) 12 2) 12 4200) 12 4200) 12 4200) 12 4200) 12 4200) 12 4200) 12 4200) 12 16) 12 4200) 12 4200) 12 1100) 12 8) 12 96) 12 48) 12 8) 12 200) 12 30) 12 30) 12 30).1))) (gN (gN (gN (gN (gN (gN (gN (gN (gN (gN (gN (gN (gN (gN (gN (gN (gN (gN (gN (gN (gN (gN (gN (gN (gN (gN (gN (gN (gN (gN (gN (gN (gN (gN (gN (gN (gN (gN (gN (gN (gN (gN (gN (gN (gN (gN (gN (gN (gN (gN G 12 2000) 12 4000) 12 2) 12 16) 12 16) 12 16) 12 16) 12 16) 12 16) 12 16) 12 192) 12 192) 12 192) 12 192) 12 128) 12 128) 12 128) 12 128) 12 96) 12 96) 12 96) 12 96) 12 96) 12 2) 12 1040) 12 1040) 12 1040) 12 1040) 12 1040) 12 2) 12 4200) 12 4200) 12 4200) 12 4200) 12 4200) 12 4200) 12 4200) 12 16) 12 4200) 12 4200) 12 1100) 12 8) 12 96) 12 48) 12 8) 12 200) 12 30) 12 30) 12 30) 12 30).1) x0 69 (some ((gN (gN (gN (gN (gN (gN (gN (gN (gN (gN (gN (gN (gN (gN (gN (gN (gN (gN (gN (gN (gN (gN (gN (gN (gN (gN (gN (gN (gN (gN (gN (gN (gN (gN (gN (gN (gN (gN (gN (gN (gN (gN (gN (gN (gN (gN (gN (gN (gN (gN G 12 2000) 12 4000) 12 2) 12 16) 12 16) 12 16) 12 16) 12 16) 12 16) 12 16) 12 192) 12 192) 12 192) 12 192) 12 128) 12 128) 12 128) 12 128) 12 96) 12 96) 12 96) 12 96) 12 96) 12 2) 12 1040) 12 1040) 12 1040) 12 1040) 12 1040) 12 2) 12 4200) 12 4200) 12 4200) 12 4200) 12 4200) 12 4200) 12 4200) 12 16) 12 4200) 12 4200) 12 1100) 12 8) 12 96) 12 48) 12 8) 12 200) 12 30) 12 30) 12 30) 12 30).1))) (gN (gN (gN (gN (gN (gN (gN (gN (gN (gN (gN (gN (gN (gN (gN (gN (gN (gN (gN (gN (gN (gN (gN (gN (gN (gN (gN (gN (gN (gN (gN (gN (gN (gN (gN (gN (gN (gN (gN (gN (gN (gN (gN (gN (gN (gN (gN (gN (gN (gN (gN G 12 2000) 12 4000) 12 2) 12 16) 12 16) 12 16) 12 16) 12 16) 12 16) 12 16) 12 192) 12 192) 12 192) 12 192) 12 128) 12 128) 12 128) 12 128) 12 96) 12 96) 12 96) 12 96) 12 96) 12 2) 12 1040) 12 1040) 12 1040) 12 1040) 12 1040) 12 2) 12 4200) 12 4200) 12 4200) 12 4200) 12 4200) 12 4200) 12 4200) 12 16) 12 4200) 12 4200) 12 1100) 12 8) 12 96) 12 48) 12 8) 12 200) 12 30) 12 30) 12 30) 12 30) 12 2100).1) x0 73 (some ((gN (gN (gN (gN (gN (gN (gN (gN (gN (gN (gN (gN (gN (gN (gN (gN (gN (gN (gN (gN (gN (gN (gN (gN (gN (gN (gN (gN (gN (gN (gN (gN (gN (gN (gN (gN (gN (gN (gN (gN (gN (gN (gN (gN (gN (gN (gN (gN (gN (gN (gN G 12 2000) 12 4000) 12 2) 12 16) 12 16) 12 16) 12 16) 12 16) 12 16) 12 16) 12 192) 12 192) 12 192) 12 192) 12 128) 12 128) 12 128) 12 128) 12 96) 12 96) 12 96) 12 96) 12 96) 12 2) 12 1040) 12 1040) 12 1040) 12 1040) 12 1040) 12 2) 12 4200) 12 4200) 12 4200) 12 4200) 12 4200) 12 4200) 12 4200) 12 16) 12 4200) 12 4200) 12 1100) 12 8) 12 96) 12 48) 12 8) 12 200) 12 30) 12 30) 12 30) 12 30) 12 2100).1)))
theorem gle_X11_init {G G9 : GG} {x0 : Nat} {m m9 : MM} (hM : K_X11_init G x0 m = some (G9, m9)) : Gle G G9 := by
  unfold K_X11_init at hM
  cases hM
  exact (Gle_up (Gle_up (Gle_up (Gle_up (Gle_up (Gle_up (Gle_up (Gle_up (Gle_up (Gle_up (Gle_up (Gle_up (Gle_up (Gle_up (Gle_up (Gle_up (Gle_up (Gle_up (Gle_up (Gle_up (Gle_up (Gle_up (Gle_up (Gle_up (Gle_up (Gle_up (Gle_up (Gle_up (Gle_up (Gle_up (Gle_up (Gle_up (Gle_up (Gle_up (Gle_up (Gle_up (Gle_up (Gle_up (Gle_up (Gle_up (Gle_up (Gle_up (Gle_up (Gle_up (Gle_up (Gle_up (Gle_up (Gle_up (Gle_up (Gle_up (Gle_up (Gle_up Gle_rf))))))))))))))))))))))))))))))))))))))))))))))))))))
theorem cy_X11_init : Cy yX11_init cX11_init 1 none 0 := ⟨cd_yX11_init, ii_X11, by decide, by decide, by decide +kernel⟩
set_option maxRecDepth 100000 in
set_option maxHeartbeats 4000000 in
theorem c_X11_init {l : Launch} {E : EE} {G G9 : GG} {x0 : Nat} {m m9 : MM} (hM : K_X11_init G x0 m = some (G9, m9)) (tx0 : Ty E G x0 11) (hb0 : E.2.2.1 ≤ G.1) : Mc l E yX11_init cX11_init 1 none rmX11_init [.ref x0] G m (cQv E G9 m9) := by
  refine M_of (by decide) (Nat.le_of_ble_eq_true rfl) (fun p e s mth below meth c C h ls hl => ?_)
  unfold K_X11_init at hM
  refine lv_aload_n C.1 C.2.1 dX11_init_0 rfl (lv_at hl 0 rfl) ?_
  refine h_obj C hl.1 ml_X11_1 (by decide) (by decide) dX11_init_1 ?_
  refine lv_aload_n C.1 C.2.1 dX11_init_4 rfl (lv_at hl 0 rfl) ?_
  refine lv_sipush (v := 2000) C.1 C.2.1 dX11_init_5 (by decide) ?_
  refine h_newa C h 12 (by decide) (by decide) rfl ac_int 2000 (by decide) (by decide) (by decide) (by decide) (by decide) dX11_init_8 (fun H locs h => ?_)
  have C0 := C
  have C := Cx_le (Gle_up (κ := 12) (n := 2000) Gle_rf) C
  have tn_1 : Ty E (gN G 12 2000) G.1 12 := Ty_new C0.2.2.2.2.2.2.2.2.2.1
  refine st_some ?_
  refine pt_11_0 C h rfl rfl (fun b hb => by cases hb; exact tn_1) (Ty_le (Gle_up Gle_rf) tx0) fl_X11_7 dX11_init_10 (fun H locs h => ?_)
  refine lv_aload_n C.1 C.2.1 dX11_init_13 rfl (lv_at hl 0 rfl) ?_
  refine lv_sipush (v := 4000) C.1 C.2.1 dX11_init_14 (by decide) ?_
  refine h_newa C h 12 (by decide) (by decide) rfl ac_int 4000 (by decide) (by decide) (by decide) (by decide) (by decide) dX11_init_17 (fun H locs h => ?_)
  have C0 := C
  have C := Cx_le (Gle_up (κ := 12) (n := 4000) Gle_rf) C
  have tn_2 : Ty E (gN (gN G 12 2000) 12 4000) (gN G 12 2000).1 12 := Ty_new C0.2.2.2.2.2.2.2.2.2.1
  refine st_some ?_
  refine pt_11_2 C h rfl rfl (fun b hb => by cases hb; exact tn_2) (Ty_le (Gle_up Gle_rf) (Ty_le (Gle_up Gle_rf) tx0)) fl_X11_13 dX11_init_19 (fun H locs h => ?_)
  refine lv_aload_n C.1 C.2.1 dX11_init_22 rfl (lv_at hl 0 rfl) ?_
  refine lv_iconst (v := 2) C.1 C.2.1 dX11_init_23 (by decide) ?_
  refine h_newa C h 12 (by decide) (by decide) rfl ac_int 2 (by decide) (by decide) (by decide) (by decide) (by decide) dX11_init_24 (fun H locs h => ?_)
  have C0 := C
  have C := Cx_le (Gle_up (κ := 12) (n := 2) Gle_rf) C
  have tn_3 : Ty E (gN (gN (gN G 12 2000) 12 4000) 12 2) (gN (gN G 12 2000) 12 4000).1 12 := Ty_new C0.2.2.2.2.2.2.2.2.2.1
  refine st_some ?_
  refine pt_11_6 C h rfl rfl (fun b hb => by cases hb; exact tn_3) (Ty_le (Gle_up Gle_rf) (Ty_le (Gle_up Gle_rf) (Ty_le (Gle_up Gle_rf) tx0))) fl_X11_16 dX11_init_26 (fun H locs h => ?_)
  refine lv_aload_n C.1 C.2.1 dX11_init_29 rfl (lv_at hl 0 rfl) ?_
  refine lv_bipush (v := 16) C.1 C.2.1 dX11_init_30 (by decide) ?_
  refine h_newa C h 12 (by decide) (by decide) rfl ac_int 16 (by decide) (by decide) (by decide) (by decide) (by decide) dX11_init_32 (fun H locs h => ?_)
  have C0 := C
  have C := Cx_le (Gle_up (κ := 12) (n := 16) Gle_rf) C
  have tn_4 : Ty E (gN (gN (gN (gN G 12 2000) 12 4000) 12 2) 12 16) (gN (gN (gN G 12 2000) 12 4000) 12 2).1 12 := Ty_new C0.2.2.2.2.2.2.2.2.2.1
  refine st_some ?_
  refine pt_11_7 C h rfl rfl (fun b hb => by cases hb; exact tn_4) (Ty_le (Gle_up Gle_rf) (Ty_le (Gle_up Gle_rf) (Ty_le (Gle_up Gle_rf) (Ty_le (Gle_up Gle_rf) tx0)))) fl_X11_19 dX11_init_34 (fun H locs h => ?_)
  refine lv_aload_n C.1 C.2.1 dX11_init_37 rfl (lv_at hl 0 rfl) ?_
  refine lv_bipush (v := 16) C.1 C.2.1 dX11_init_38 (by decide) ?_
  refine h_newa C h 12 (by decide) (by decide) rfl ac_int 16 (by decide) (by decide) (by decide) (by decide) (by decide) dX11_init_40 (fun H locs h => ?_)
  have C0 := C
  have C := Cx_le (Gle_up (κ := 12) (n := 16) Gle_rf) C
  have tn_5 : Ty E (gN (gN (gN (gN (gN G 12 2000) 12 4000) 12 2) 12 16) 12 16) (gN (gN (gN (gN G 12 2000) 12 4000) 12 2) 12 16).1 12 := Ty_new C0.2.2.2.2.2.2.2.2.2.1
  refine st_some ?_
  refine pt_11_8 C h rfl rfl (fun b hb => by cases hb; exact tn_5) (Ty_le (Gle_up Gle_rf) (Ty_le (Gle_up Gle_rf) (Ty_le (Gle_up Gle_rf) (Ty_le (Gle_up Gle_rf) (Ty_le (Gle_up Gle_rf) tx0))))) fl_X11_22 dX11_init_42 (fun H locs h => ?_)
  refine lv_aload_n C.1 C.2.1 dX11_init_45 rfl (lv_at hl 0 rfl) ?_
  refine lv_bipush (v := 16) C.1 C.2.1 dX11_init_46 (by decide) ?_
  refine h_newa C h 12 (by decide) (by decide) rfl ac_int 16 (by decide) (by decide) (by decide) (by decide) (by decide) dX11_init_48 (fun H locs h => ?_)
  have C0 := C
  have C := Cx_le (Gle_up (κ := 12) (n := 16) Gle_rf) C
  have tn_6 : Ty E (gN (gN (gN (gN (gN (gN G 12 2000) 12 4000) 12 2) 12 16) 12 16) 12 16) (gN (gN (gN (gN (gN G 12 2000) 12 4000) 12 2) 12 16) 12 16).1 12 := Ty_new C0.2.2.2.2.2.2.2.2.2.1
  refine st_some ?_
  refine pt_11_9 C h rfl rfl (fun b hb => by cases hb; exact tn_6) (Ty_le (Gle_up Gle_rf) (Ty_le (Gle_up Gle_rf) (Ty_le (Gle_up Gle_rf) (Ty_le (Gle_up Gle_rf) (Ty_le (Gle_up Gle_rf) (Ty_le (Gle_up Gle_rf) tx0)))))) fl_X11_25 dX11_init_50 (fun H locs h => ?_)
  refine lv_aload_n C.1 C.2.1 dX11_init_53 rfl (lv_at hl 0 rfl) ?_
  refine lv_bipush (v := 16) C.1 C.2.1 dX11_init_54 (by decide) ?_
  refine h_newa C h 12 (by decide) (by decide) rfl ac_int 16 (by decide) (by decide) (by decide) (by decide) (by decide) dX11_init_56 (fun H locs h => ?_)
  have C0 := C
  have C := Cx_le (Gle_up (κ := 12) (n := 16) Gle_rf) C
  have tn_7 : Ty E (gN (gN (gN (gN (gN (gN (gN G 12 2000) 12 4000) 12 2) 12 16) 12 16) 12 16) 12 16) (gN (gN (gN (gN (gN (gN G 12 2000) 12 4000) 12 2) 12 16) 12 16) 12 16).1 12 := Ty_new C0.2.2.2.2.2.2.2.2.2.1
  refine st_some ?_
  refine pt_11_10 C h rfl rfl (fun b hb => by cases hb; exact tn_7) (Ty_le (Gle_up Gle_rf) (Ty_le (Gle_up Gle_rf) (Ty_le (Gle_up Gle_rf) (Ty_le (Gle_up Gle_rf) (Ty_le (Gle_up Gle_rf) (Ty_le (Gle_up Gle_rf) (Ty_le (Gle_up Gle_rf) tx0))))))) fl_X11_28 dX11_init_58 (fun H locs h => ?_)
  refine lv_aload_n C.1 C.2.1 dX11_init_61 rfl (lv_at hl 0 rfl) ?_
  refine lv_bipush (v := 16) C.1 C.2.1 dX11_init_62 (by decide) ?_
  refine h_newa C h 12 (by decide) (by decide) rfl ac_int 16 (by decide) (by decide) (by decide) (by decide) (by decide) dX11_init_64 (fun H locs h => ?_)
  have C0 := C
  have C := Cx_le (Gle_up (κ := 12) (n := 16) Gle_rf) C
  have tn_8 : Ty E (gN (gN (gN (gN (gN (gN (gN (gN G 12 2000) 12 4000) 12 2) 12 16) 12 16) 12 16) 12 16) 12 16) (gN (gN (gN (gN (gN (gN (gN G 12 2000) 12 4000) 12 2) 12 16) 12 16) 12 16) 12 16).1 12 := Ty_new C0.2.2.2.2.2.2.2.2.2.1
  refine st_some ?_
  refine pt_11_11 C h rfl rfl (fun b hb => by cases hb; exact tn_8) (Ty_le (Gle_up Gle_rf) (Ty_le (Gle_up Gle_rf) (Ty_le (Gle_up Gle_rf) (Ty_le (Gle_up Gle_rf) (Ty_le (Gle_up Gle_rf) (Ty_le (Gle_up Gle_rf) (Ty_le (Gle_up Gle_rf) (Ty_le (Gle_up Gle_rf) tx0)))))))) fl_X11_31 dX11_init_66 (fun H locs h => ?_)
  refine lv_aload_n C.1 C.2.1 dX11_init_69 rfl (lv_at hl 0 rfl) ?_
  refine lv_bipush (v := 16) C.1 C.2.1 dX11_init_70 (by decide) ?_
  refine h_newa C h 12 (by decide) (by decide) rfl ac_int 16 (by decide) (by decide) (by decide) (by decide) (by decide) dX11_init_72 (fun H locs h => ?_)
  have C0 := C
  have C := Cx_le (Gle_up (κ := 12) (n := 16) Gle_rf) C
  have tn_9 : Ty E (gN (gN (gN (gN (gN (gN (gN (gN (gN G 12 2000) 12 4000) 12 2) 12 16) 12 16) 12 16) 12 16) 12 16) 12 16) (gN (gN (gN (gN (gN (gN (gN (gN G 12 2000) 12 4000) 12 2) 12 16) 12 16) 12 16) 12 16) 12 16).1 12 := Ty_new C0.2.2.2.2.2.2.2.2.2.1
  refine st_some ?_
  refine pt_11_12 C h rfl rfl (fun b hb => by cases hb; exact tn_9) (Ty_le (Gle_up Gle_rf) (Ty_le (Gle_up Gle_rf) (Ty_le (Gle_up Gle_rf) (Ty_le (Gle_up Gle_rf) (Ty_le (Gle_up Gle_rf) (Ty_le (Gle_up Gle_rf) (Ty_le (Gle_up Gle_rf) (Ty_le (Gle_up Gle_rf) (Ty_le (Gle_up Gle_rf) tx0))))))))) fl_X11_34 dX11_init_74 (fun H locs h => ?_)
  refine lv_aload_n C.1 C.2.1 dX11_init_77 rfl (lv_at hl 0 rfl) ?_
  refine lv_bipush (v := 16) C.1 C.2.1 dX11_init_78 (by decide) ?_
  refine h_newa C h 12 (by decide) (by decide) rfl ac_int 16 (by decide) (by decide) (by decide) (by decide) (by decide) dX11_init_80 (fun H locs h => ?_)
  have C0 := C
  have C := Cx_le (Gle_up (κ := 12) (n := 16) Gle_rf) C
  have tn_10 : Ty E (gN (gN (gN (gN (gN (gN (gN (gN (gN (gN G 12 2000) 12 4000) 12 2) 12 16) 12 16) 12 16) 12 16) 12 16) 12 16) 12 16) (gN (gN (gN (gN (gN (gN (gN (gN (gN G 12 2000) 12 4000) 12 2) 12 16) 12 16) 12 16) 12 16) 12 16) 12 16).1 12 := Ty_new C0.2.2.2.2.2.2.2.2.2.1
  refine st_some ?_
  refine pt_11_13 C h rfl rfl (fun b hb => by cases hb; exact tn_10) (Ty_le (Gle_up Gle_rf) (Ty_le (Gle_up Gle_rf) (Ty_le (Gle_up Gle_rf) (Ty_le (Gle_up Gle_rf) (Ty_le (Gle_up Gle_rf) (Ty_le (Gle_up Gle_rf) (Ty_le (Gle_up Gle_rf) (Ty_le (Gle_up Gle_rf) (Ty_le (Gle_up Gle_rf) (Ty_le (Gle_up Gle_rf) tx0)))))))))) fl_X11_37 dX11_init_82 (fun H locs h => ?_)
  refine lv_aload_n C.1 C.2.1 dX11_init_85 rfl (lv_at hl 0 rfl) ?_
  refine lv_sipush (v := 192) C.1 C.2.1 dX11_init_86 (by decide) ?_
  refine h_newa C h 12 (by decide) (by decide) rfl ac_int 192 (by decide) (by decide) (by decide) (by decide) (by decide) dX11_init_89 (fun H locs h => ?_)
  have C0 := C
  have C := Cx_le (Gle_up (κ := 12) (n := 192) Gle_rf) C
  have tn_11 : Ty E (gN (gN (gN (gN (gN (gN (gN (gN (gN (gN (gN G 12 2000) 12 4000) 12 2) 12 16) 12 16) 12 16) 12 16) 12 16) 12 16) 12 16) 12 192) (gN (gN (gN (gN (gN (gN (gN (gN (gN (gN G 12 2000) 12 4000) 12 2) 12 16) 12 16) 12 16) 12 16) 12 16) 12 16) 12 16).1 12 := Ty_new C0.2.2.2.2.2.2.2.2.2.1
  refine st_some ?_
  refine pt_11_14 C h rfl rfl (fun b hb => by cases hb; exact tn_11) (Ty_le (Gle_up Gle_rf) (Ty_le (Gle_up Gle_rf) (Ty_le (Gle_up Gle_rf) (Ty_le (Gle_up Gle_rf) (Ty_le (Gle_up Gle_rf) (Ty_le (Gle_up Gle_rf) (Ty_le (Gle_up Gle_rf) (Ty_le (Gle_up Gle_rf) (Ty_le (Gle_up Gle_rf) (Ty_le (Gle_up Gle_rf) (Ty_le (Gle_up Gle_rf) tx0))))))))))) fl_X11_40 dX11_init_91 (fun H locs h => ?_)
  refine lv_aload_n C.1 C.2.1 dX11_init_94 rfl (lv_at hl 0 rfl) ?_
  refine lv_sipush (v := 192) C.1 C.2.1 dX11_init_95 (by decide) ?_
  refine h_newa C h 12 (by decide) (by decide) rfl ac_int 192 (by decide) (by decide) (by decide) (by decide) (by decide) dX11_init_98 (fun H locs h => ?_)
  have C0 := C
  have C := Cx_le (Gle_up (κ := 12) (n := 192) Gle_rf) C
  have tn_12 : Ty E (gN (gN (gN (gN (gN (gN (gN (gN (gN (gN (gN (gN G 12 2000) 12 4000) 12 2) 12 16) 12 16) 12 16) 12 16) 12 16) 12 16) 12 16) 12 192) 12 192) (gN (gN (gN (gN (gN (gN (gN (gN (gN (gN (gN G 12 2000) 12 4000) 12 2) 12 16) 12 16) 12 16) 12 16) 12 16) 12 16) 12 16) 12 192).1 12 := Ty_new C0.2.2.2.2.2.2.2.2.2.1
  refine st_some ?_
  refine pt_11_15 C h rfl rfl (fun b hb => by cases hb; exact tn_12) (Ty_le (Gle_up Gle_rf) (Ty_le (Gle_up Gle_rf) (Ty_le (Gle_up Gle_rf) (Ty_le (Gle_up Gle_rf) (Ty_le (Gle_up Gle_rf) (Ty_le (Gle_up Gle_rf) (Ty_le (Gle_up Gle_rf) (Ty_le (Gle_up Gle_rf) (Ty_le (Gle_up Gle_rf) (Ty_le (Gle_up Gle_rf) (Ty_le (Gle_up Gle_rf) (Ty_le (Gle_up Gle_rf) tx0)))))))))))) fl_X11_43 dX11_init_100 (fun H locs h => ?_)
  refine lv_aload_n C.1 C.2.1 dX11_init_103 rfl (lv_at hl 0 rfl) ?_
  refine lv_sipush (v := 192) C.1 C.2.1 dX11_init_104 (by decide) ?_
  refine h_newa C h 12 (by decide) (by decide) rfl ac_int 192 (by decide) (by decide) (by decide) (by decide) (by decide) dX11_init_107 (fun H locs h => ?_)
  have C0 := C
  have C := Cx_le (Gle_up (κ := 12) (n := 192) Gle_rf) C
  have tn_13 : Ty E (gN (gN (gN (gN (gN (gN (gN (gN (gN (gN (gN (gN (gN G 12 2000) 12 4000) 12 2) 12 16) 12 16) 12 16) 12 16) 12 16) 12 16) 12 16) 12 192) 12 192) 12 192) (gN (gN (gN (gN (gN (gN (gN (gN (gN (gN (gN (gN G 12 2000) 12 4000) 12 2) 12 16) 12 16) 12 16) 12 16) 12 16) 12 16) 12 16) 12 192) 12 192).1 12 := Ty_new C0.2.2.2.2.2.2.2.2.2.1
  refine st_some ?_
  refine pt_11_16 C h rfl rfl (fun b hb => by cases hb; exact tn_13) (Ty_le (Gle_up Gle_rf) (Ty_le (Gle_up Gle_rf) (Ty_le (Gle_up Gle_rf) (Ty_le (Gle_up Gle_rf) (Ty_le (Gle_up Gle_rf) (Ty_le (Gle_up Gle_rf) (Ty_le (Gle_up Gle_rf) (Ty_le (Gle_up Gle_rf) (Ty_le (Gle_up Gle_rf) (Ty_le (Gle_up Gle_rf) (Ty_le (Gle_up Gle_rf) (Ty_le (Gle_up Gle_rf) (Ty_le (Gle_up Gle_rf) tx0))))))))))))) fl_X11_46 dX11_init_109 (fun H locs h => ?_)
  refine lv_aload_n C.1 C.2.1 dX11_init_112 rfl (lv_at hl 0 rfl) ?_
  refine lv_sipush (v := 192) C.1 C.2.1 dX11_init_113 (by decide) ?_
  refine h_newa C h 12 (by decide) (by decide) rfl ac_int 192 (by decide) (by decide) (by decide) (by decide) (by decide) dX11_init_116 (fun H locs h => ?_)
  have C0 := C
  have C := Cx_le (Gle_up (κ := 12) (n := 192) Gle_rf) C
  have tn_14 : Ty E (gN (gN (gN (gN (gN (gN (gN (gN (gN (gN (gN (gN (gN (gN G 12 2000) 12 4000) 12 2) 12 16) 12 16) 12 16) 12 16) 12 16) 12 16) 12 16) 12 192) 12 192) 12 192) 12 192) (gN (gN (gN (gN (gN (gN (gN (gN (gN (gN (gN (gN (gN G 12 2000) 12 4000) 12 2) 12 16) 12 16) 12 16) 12 16) 12 16) 12 16) 12 16) 12 192) 12 192) 12 192).1 12 := Ty_new C0.2.2.2.2.2.2.2.2.2.1
  refine st_some ?_
  refine pt_11_17 C h rfl rfl (fun b hb => by cases hb; exact tn_14) (Ty_le (Gle_up Gle_rf) (Ty_le (Gle_up Gle_rf) (Ty_le (Gle_up Gle_rf) (Ty_le (Gle_up Gle_rf) (Ty_le (Gle_up Gle_rf) (Ty_le (Gle_up Gle_rf) (Ty_le (Gle_up Gle_rf) (Ty_le (Gle_up Gle_rf) (Ty_le (Gle_up Gle_rf) (Ty_le (Gle_up Gle_rf) (Ty_le (Gle_up Gle_rf) (Ty_le (Gle_up Gle_rf) (Ty_le (Gle_up Gle_rf) (Ty_le (Gle_up Gle_rf) tx0)))))))))))))) fl_X11_49 dX11_init_118 (fun H locs h => ?_)
  refine lv_aload_n C.1 C.2.1 dX11_init_121 rfl (lv_at hl 0 rfl) ?_
  refine lv_sipush (v := 128) C.1 C.2.1 dX11_init_122 (by decide) ?_
  refine h_newa C h 12 (by decide) (by decide) rfl ac_int 128 (by decide) (by decide) (by decide) (by decide) (by decide) dX11_init_125 (fun H locs h => ?_)
  have C0 := C
  have C := Cx_le (Gle_up (κ := 12) (n := 128) Gle_rf) C
  have tn_15 : Ty E (gN (gN (gN (gN (gN (gN (gN (gN (gN (gN (gN (gN (gN (gN (gN G 12 2000) 12 4000) 12 2) 12 16) 12 16) 12 16) 12 16) 12 16) 12 16) 12 16) 12 192) 12 192) 12 192) 12 192) 12 128) (gN (gN (gN (gN (gN (gN (gN (gN (gN (gN (gN (gN (gN (gN G 12 2000) 12 4000) 12 2) 12 16) 12 16) 12 16) 12 16) 12 16) 12 16) 12 16) 12 192) 12 192) 12 192) 12 192).1 12 := Ty_new C0.2.2.2.2.2.2.2.2.2.1
  refine st_some ?_
  refine pt_11_18 C h rfl rfl (fun b hb => by cases hb; exact tn_15) (Ty_le (Gle_up Gle_rf) (Ty_le (Gle_up Gle_rf) (Ty_le (Gle_up Gle_rf) (Ty_le (Gle_up Gle_rf) (Ty_le (Gle_up Gle_rf) (Ty_le (Gle_up Gle_rf) (Ty_le (Gle_up Gle_rf) (Ty_le (Gle_up Gle_rf) (Ty_le (Gle_up Gle_rf) (Ty_le (Gle_up Gle_rf) (Ty_le (Gle_up Gle_rf) (Ty_le (Gle_up Gle_rf) (Ty_le (Gle_up Gle_rf) (Ty_le (Gle_up Gle_rf) (Ty_le (Gle_up Gle_rf) tx0))))))))))))))) fl_X11_52 dX11_init_127 (fun H locs h => ?_)
  refine lv_aload_n C.1 C.2.1 dX11_init_130 rfl (lv_at hl 0 rfl) ?_
  refine lv_sipush (v := 128) C.1 C.2.1 dX11_init_131 (by decide) ?_
  refine h_newa C h 12 (by decide) (by decide) rfl ac_int 128 (by decide) (by decide) (by decide) (by decide) (by decide) dX11_init_134 (fun H locs h => ?_)
  have C0 := C
  have C := Cx_le (Gle_up (κ := 12) (n := 128) Gle_rf) C
  have tn_16 : Ty E (gN (gN (gN (gN (gN (gN (gN (gN (gN (gN (gN (gN (gN (gN (gN (gN G 12 2000) 12 4000) 12 2) 12 16) 12 16) 12 16) 12 16) 12 16) 12 16) 12 16) 12 192) 12 192) 12 192) 12 192) 12 128) 12 128) (gN (gN (gN (gN (gN (gN (gN (gN (gN (gN (gN (gN (gN (gN (gN G 12 2000) 12 4000) 12 2) 12 16) 12 16) 12 16) 12 16) 12 16) 12 16) 12 16) 12 192) 12 192) 12 192) 12 192) 12 128).1 12 := Ty_new C0.2.2.2.2.2.2.2.2.2.1
  refine st_some ?_
  refine pt_11_19 C h rfl rfl (fun b hb => by cases hb; exact tn_16) (Ty_le (Gle_up Gle_rf) (Ty_le (Gle_up Gle_rf) (Ty_le (Gle_up Gle_rf) (Ty_le (Gle_up Gle_rf) (Ty_le (Gle_up Gle_rf) (Ty_le (Gle_up Gle_rf) (Ty_le (Gle_up Gle_rf) (Ty_le (Gle_up Gle_rf) (Ty_le (Gle_up Gle_rf) (Ty_le (Gle_up Gle_rf) (Ty_le (Gle_up Gle_rf) (Ty_le (Gle_up Gle_rf) (Ty_le (Gle_up Gle_rf) (Ty_le (Gle_up Gle_rf) (Ty_le (Gle_up Gle_rf) (Ty_le (Gle_up Gle_rf) tx0)))))))))))))))) fl_X11_55 dX11_init_136 (fun H locs h => ?_)
  refine lv_aload_n C.1 C.2.1 dX11_init_139 rfl (lv_at hl 0 rfl) ?_
  refine lv_sipush (v := 128) C.1 C.2.1 dX11_init_140 (by decide) ?_
  refine h_newa C h 12 (by decide) (by decide) rfl ac_int 128 (by decide) (by decide) (by decide) (by decide) (by decide) dX11_init_143 (fun H locs h => ?_)
  have C0 := C
  have C := Cx_le (Gle_up (κ := 12) (n := 128) Gle_rf) C
  have tn_17 : Ty E (gN (gN (gN (gN (gN (gN (gN (gN (gN (gN (gN (gN (gN (gN (gN (gN (gN G 12 2000) 12 4000) 12 2) 12 16) 12 16) 12 16) 12 16) 12 16) 12 16) 12 16) 12 192) 12 192) 12 192) 12 192) 12 128) 12 128) 12 128) (gN (gN (gN (gN (gN (gN (gN (gN (gN (gN (gN (gN (gN (gN (gN (gN G 12 2000) 12 4000) 12 2) 12 16) 12 16) 12 16) 12 16) 12 16) 12 16) 12 16) 12 192) 12 192) 12 192) 12 192) 12 128) 12 128).1 12 := Ty_new C0.2.2.2.2.2.2.2.2.2.1
  refine st_some ?_
  refine pt_11_20 C h rfl rfl (fun b hb => by cases hb; exact tn_17) (Ty_le (Gle_up Gle_rf) (Ty_le (Gle_up Gle_rf) (Ty_le (Gle_up Gle_rf) (Ty_le (Gle_up Gle_rf) (Ty_le (Gle_up Gle_rf) (Ty_le (Gle_up Gle_rf) (Ty_le (Gle_up Gle_rf) (Ty_le (Gle_up Gle_rf) (Ty_le (Gle_up Gle_rf) (Ty_le (Gle_up Gle_rf) (Ty_le (Gle_up Gle_rf) (Ty_le (Gle_up Gle_rf) (Ty_le (Gle_up Gle_rf) (Ty_le (Gle_up Gle_rf) (Ty_le (Gle_up Gle_rf) (Ty_le (Gle_up Gle_rf) (Ty_le (Gle_up Gle_rf) tx0))))))))))))))))) fl_X11_58 dX11_init_145 (fun H locs h => ?_)
  refine lv_aload_n C.1 C.2.1 dX11_init_148 rfl (lv_at hl 0 rfl) ?_
  refine lv_sipush (v := 128) C.1 C.2.1 dX11_init_149 (by decide) ?_
  refine h_newa C h 12 (by decide) (by decide) rfl ac_int 128 (by decide) (by decide) (by decide) (by decide) (by decide) dX11_init_152 (fun H locs h => ?_)
  have C0 := C
  have C := Cx_le (Gle_up (κ := 12) (n := 128) Gle_rf) C
  have tn_18 : Ty E (gN (gN (gN (gN (gN (gN (gN (gN (gN (gN (gN (gN (gN (gN (gN (gN (gN (gN G 12 2000) 12 4000) 12 2) 12 16) 12 16) 12 16) 12 16) 12 16) 12 16) 12 16) 12 192) 12 192) 12 192) 12 192) 12 128) 12 128) 12 128) 12 128) (gN (gN (gN (gN (gN (gN (gN (gN (gN (gN (gN (gN (gN (gN (gN (gN (gN G 12 2000) 12 4000) 12 2) 12 16) 12 16) 12 16) 12 16) 12 16) 12 16) 12 16) 12 192) 12 192) 12 192) 12 192) 12 128) 12 128) 12 128).1 12 := Ty_new C0.2.2.2.2.2.2.2.2.2.1
  refine st_some ?_
  refine pt_11_21 C h rfl rfl (fun b hb => by cases hb; exact tn_18) (Ty_le (Gle_up Gle_rf) (Ty_le (Gle_up Gle_rf) (Ty_le (Gle_up Gle_rf) (Ty_le (Gle_up Gle_rf) (Ty_le (Gle_up Gle_rf) (Ty_le (Gle_up Gle_rf) (Ty_le (Gle_up Gle_rf) (Ty_le (Gle_up Gle_rf) (Ty_le (Gle_up Gle_rf) (Ty_le (Gle_up Gle_rf) (Ty_le (Gle_up Gle_rf) (Ty_le (Gle_up Gle_rf) (Ty_le (Gle_up Gle_rf) (Ty_le (Gle_up Gle_rf) (Ty_le (Gle_up Gle_rf) (Ty_le (Gle_up Gle_rf) (Ty_le (Gle_up Gle_rf) (Ty_le (Gle_up Gle_rf) tx0)))))))))))))))))) fl_X11_61 dX11_init_154 (fun H locs h => ?_)
  refine lv_aload_n C.1 C.2.1 dX11_init_157 rfl (lv_at hl 0 rfl) ?_
  refine lv_bipush (v := 96) C.1 C.2.1 dX11_init_158 (by decide) ?_
  refine h_newa C h 12 (by decide) (by decide) rfl ac_int 96 (by decide) (by decide) (by decide) (by decide) (by decide) dX11_init_160 (fun H locs h => ?_)
  have C0 := C
  have C := Cx_le (Gle_up (κ := 12) (n := 96) Gle_rf) C
  have tn_19 : Ty E (gN (gN (gN (gN (gN (gN (gN (gN (gN (gN (gN (gN (gN (gN (gN (gN (gN (gN (gN G 12 2000) 12 4000) 12 2) 12 16) 12 16) 12 16) 12 16) 12 16) 12 16) 12 16) 12 192) 12 192) 12 192) 12 192) 12 128) 12 128) 12 128) 12 128) 12 96) (gN (gN (gN (gN (gN (gN (gN (gN (gN (gN (gN (gN (gN (gN (gN (gN (gN (gN G 12 2000) 12 4000) 12 2) 12 16) 12 16) 12 16) 12 16) 12 16) 12 16) 12 16) 12 192) 12 192) 12 192) 12 192) 12 128) 12 128) 12 128) 12 128).1 12 := Ty_new C0.2.2.2.2.2.2.2.2.2.1
  refine st_some ?_
  refine pt_11_22 C h rfl rfl (fun b hb => by cases hb; exact tn_19) (Ty_le (Gle_up Gle_rf) (Ty_le (Gle_up Gle_rf) (Ty_le (Gle_up Gle_rf) (Ty_le (Gle_up Gle_rf) (Ty_le (Gle_up Gle_rf) (Ty_le (Gle_up Gle_rf) (Ty_le (Gle_up Gle_rf) (Ty_le (Gle_up Gle_rf) (Ty_le (Gle_up Gle_rf) (Ty_le (Gle_up Gle_rf) (Ty_le (Gle_up Gle_rf) (Ty_le (Gle_up Gle_rf) (Ty_le (Gle_up Gle_rf) (Ty_le (Gle_up Gle_rf) (Ty_le (Gle_up Gle_rf) (Ty_le (Gle_up Gle_rf) (Ty_le (Gle_up Gle_rf) (Ty_le (Gle_up Gle_rf) (Ty_le (Gle_up Gle_rf) tx0))))))))))))))))))) fl_X11_64 dX11_init_162 (fun H locs h => ?_)
  refine lv_aload_n C.1 C.2.1 dX11_init_165 rfl (lv_at hl 0 rfl) ?_
  refine lv_bipush (v := 96) C.1 C.2.1 dX11_init_166 (by decide) ?_
  refine h_newa C h 12 (by decide) (by decide) rfl ac_int 96 (by decide) (by decide) (by decide) (by decide) (by decide) dX11_init_168 (fun H locs h => ?_)
  have C0 := C
  have C := Cx_le (Gle_up (κ := 12) (n := 96) Gle_rf) C
  have tn_20 : Ty E (gN (gN (gN (gN (gN (gN (gN (gN (gN (gN (gN (gN (gN (gN (gN (gN (gN (gN (gN (gN G 12 2000) 12 4000) 12 2) 12 16) 12 16) 12 16) 12 16) 12 16) 12 16) 12 16) 12 192) 12 192) 12 192) 12 192) 12 128) 12 128) 12 128) 12 128) 12 96) 12 96) (gN (gN (gN (gN (gN (gN (gN (gN (gN (gN (gN (gN (gN (gN (gN (gN (gN (gN (gN G 12 2000) 12 4000) 12 2) 12 16) 12 16) 12 16) 12 16) 12 16) 12 16) 12 16) 12 192) 12 192) 12 192) 12 192) 12 128) 12 128) 12 128) 12 128) 12 96).1 12 := Ty_new C0.2.2.2.2.2.2.2.2.2.1
  refine st_some ?_
  refine pt_11_23 C h rfl rfl (fun b hb => by cases hb; exact tn_20) (Ty_le (Gle_up Gle_rf) (Ty_le (Gle_up Gle_rf) (Ty_le (Gle_up Gle_rf) (Ty_le (Gle_up Gle_rf) (Ty_le (Gle_up Gle_rf) (Ty_le (Gle_up Gle_rf) (Ty_le (Gle_up Gle_rf) (Ty_le (Gle_up Gle_rf) (Ty_le (Gle_up Gle_rf) (Ty_le (Gle_up Gle_rf) (Ty_le (Gle_up Gle_rf) (Ty_le (Gle_up Gle_rf) (Ty_le (Gle_up Gle_rf) (Ty_le (Gle_up Gle_rf) (Ty_le (Gle_up Gle_rf) (Ty_le (Gle_up Gle_rf) (Ty_le (Gle_up Gle_rf) (Ty_le (Gle_up Gle_rf) (Ty_le (Gle_up Gle_rf) (Ty_le (Gle_up Gle_rf) tx0)))))))))))))))))))) fl_X11_67 dX11_init_170 (fun H locs h => ?_)
  refine lv_aload_n C.1 C.2.1 dX11_init_173 rfl (lv_at hl 0 rfl) ?_
  refine lv_bipush (v := 96) C.1 C.2.1 dX11_init_174 (by decide) ?_
  refine h_newa C h 12 (by decide) (by decide) rfl ac_int 96 (by decide) (by decide) (by decide) (by decide) (by decide) dX11_init_176 (fun H locs h => ?_)
  have C0 := C
  have C := Cx_le (Gle_up (κ := 12) (n := 96) Gle_rf) C
  have tn_21 : Ty E (gN (gN (gN (gN (gN (gN (gN (gN (gN (gN (gN (gN (gN (gN (gN (gN (gN (gN (gN (gN (gN G 12 2000) 12 4000) 12 2) 12 16) 12 16) 12 16) 12 16) 12 16) 12 16) 12 16) 12 192) 12 192) 12 192) 12 192) 12 128) 12 128) 12 128) 12 128) 12 96) 12 96) 12 96) (gN (gN (gN (gN (gN (gN (gN (gN (gN (gN (gN (gN (gN (gN (gN (gN (gN (gN (gN (gN G 12 2000) 12 4000) 12 2) 12 16) 12 16) 12 16) 12 16) 12 16) 12 16) 12 16) 12 192) 12 192) 12 192) 12 192) 12 128) 12 128) 12 128) 12 128) 12 96) 12 96).1 12 := Ty_new C0.2.2.2.2.2.2.2.2.2.1
  refine st_some ?_
  refine pt_11_24 C h rfl rfl (fun b hb => by cases hb; exact tn_21) (Ty_le (Gle_up Gle_rf) (Ty_le (Gle_up Gle_rf) (Ty_le (Gle_up Gle_rf) (Ty_le (Gle_up Gle_rf) (Ty_le (Gle_up Gle_rf) (Ty_le (Gle_up Gle_rf) (Ty_le (Gle_up Gle_rf) (Ty_le (Gle_up Gle_rf) (Ty_le (Gle_up Gle_rf) (Ty_le (Gle_up Gle_rf) (Ty_le (Gle_up Gle_rf) (Ty_le (Gle_up Gle_rf) (Ty_le (Gle_up Gle_rf) (Ty_le (Gle_up Gle_rf) (Ty_le (Gle_up Gle_rf) (Ty_le (Gle_up Gle_rf) (Ty_le (Gle_up Gle_rf) (Ty_le (Gle_up Gle_rf) (Ty_le (Gle_up Gle_rf) (Ty_le (Gle_up Gle_rf) (Ty_le (Gle_up Gle_rf) tx0))))))))))))))))))))) fl_X11_70 dX11_init_178 (fun H locs h => ?_)
  refine lv_aload_n C.1 C.2.1 dX11_init_181 rfl (lv_at hl 0 rfl) ?_
  refine lv_bipush (v := 96) C.1 C.2.1 dX11_init_182 (by decide) ?_
  refine h_newa C h 12 (by decide) (by decide) rfl ac_int 96 (by decide) (by decide) (by decide) (by decide) (by decide) dX11_init_184 (fun H locs h => ?_)
  have C0 := C
  have C := Cx_le (Gle_up (κ := 12) (n := 96) Gle_rf) C
  have tn_22 : Ty E (gN (gN (gN (gN (gN (gN (gN (gN (gN (gN (gN (gN (gN (gN (gN (gN (gN (gN (gN (gN (gN (gN G 12 2000) 12 4000) 12 2) 12 16) 12 16) 12 16) 12 16) 12 16) 12 16) 12 16) 12 192) 12 192) 12 192) 12 192) 12 128) 12 128) 12 128) 12 128) 12 96) 12 96) 12 96) 12 96) (gN (gN (gN (gN (gN (gN (gN (gN (gN (gN (gN (gN (gN (gN (gN (gN (gN (gN (gN (gN (gN G 12 2000) 12 4000) 12 2) 12 16) 12 16) 12 16) 12 16) 12 16) 12 16) 12 16) 12 192) 12 192) 12 192) 12 192) 12 128) 12 128) 12 128) 12 128) 12 96) 12 96) 12 96).1 12 := Ty_new C0.2.2.2.2.2.2.2.2.2.1
  refine st_some ?_
  refine pt_11_25 C h rfl rfl (fun b hb => by cases hb; exact tn_22) (Ty_le (Gle_up Gle_rf) (Ty_le (Gle_up Gle_rf) (Ty_le (Gle_up Gle_rf) (Ty_le (Gle_up Gle_rf) (Ty_le (Gle_up Gle_rf) (Ty_le (Gle_up Gle_rf) (Ty_le (Gle_up Gle_rf) (Ty_le (Gle_up Gle_rf) (Ty_le (Gle_up Gle_rf) (Ty_le (Gle_up Gle_rf) (Ty_le (Gle_up Gle_rf) (Ty_le (Gle_up Gle_rf) (Ty_le (Gle_up Gle_rf) (Ty_le (Gle_up Gle_rf) (Ty_le (Gle_up Gle_rf) (Ty_le (Gle_up Gle_rf) (Ty_le (Gle_up Gle_rf) (Ty_le (Gle_up Gle_rf) (Ty_le (Gle_up Gle_rf) (Ty_le (Gle_up Gle_rf) (Ty_le (Gle_up Gle_rf) (Ty_le (Gle_up Gle_rf) tx0)))))))))))))))))))))) fl_X11_73 dX11_init_186 (fun H locs h => ?_)
  refine lv_aload_n C.1 C.2.1 dX11_init_189 rfl (lv_at hl 0 rfl) ?_
  refine lv_bipush (v := 96) C.1 C.2.1 dX11_init_190 (by decide) ?_
  refine h_newa C h 12 (by decide) (by decide) rfl ac_int 96 (by decide) (by decide) (by decide) (by decide) (by decide) dX11_init_192 (fun H locs h => ?_)
  have C0 := C
  have C := Cx_le (Gle_up (κ := 12) (n := 96) Gle_rf) C
  have tn_23 : Ty E (gN (gN (gN (gN (gN (gN (gN (gN (gN (gN (gN (gN (gN (gN (gN (gN (gN (gN (gN (gN (gN (gN (gN G 12 2000) 12 4000) 12 2) 12 16) 12 16) 12 16) 12 16) 12 16) 12 16) 12 16) 12 192) 12 192) 12 192) 12 192) 12 128) 12 128) 12 128) 12 128) 12 96) 12 96) 12 96) 12 96) 12 96) (gN (gN (gN (gN (gN (gN (gN (gN (gN (gN (gN (gN (gN (gN (gN (gN (gN (gN (gN (gN (gN (gN G 12 2000) 12 4000) 12 2) 12 16) 12 16) 12 16) 12 16) 12 16) 12 16) 12 16) 12 192) 12 192) 12 192) 12 192) 12 128) 12 128) 12 128) 12 128) 12 96) 12 96) 12 96) 12 96).1 12 := Ty_new C0.2.2.2.2.2.2.2.2.2.1
  refine st_some ?_
  refine pt_11_26 C h rfl rfl (fun b hb => by cases hb; exact tn_23) (Ty_le (Gle_up Gle_rf) (Ty_le (Gle_up Gle_rf) (Ty_le (Gle_up Gle_rf) (Ty_le (Gle_up Gle_rf) (Ty_le (Gle_up Gle_rf) (Ty_le (Gle_up Gle_rf) (Ty_le (Gle_up Gle_rf) (Ty_le (Gle_up Gle_rf) (Ty_le (Gle_up Gle_rf) (Ty_le (Gle_up Gle_rf) (Ty_le (Gle_up Gle_rf) (Ty_le (Gle_up Gle_rf) (Ty_le (Gle_up Gle_rf) (Ty_le (Gle_up Gle_rf) (Ty_le (Gle_up Gle_rf) (Ty_le (Gle_up Gle_rf) (Ty_le (Gle_up Gle_rf) (Ty_le (Gle_up Gle_rf) (Ty_le (Gle_up Gle_rf) (Ty_le (Gle_up Gle_rf) (Ty_le (Gle_up Gle_rf) (Ty_le (Gle_up Gle_rf) (Ty_le (Gle_up Gle_rf) tx0))))))))))))))))))))))) fl_X11_76 dX11_init_194 (fun H locs h => ?_)
  refine lv_aload_n C.1 C.2.1 dX11_init_197 rfl (lv_at hl 0 rfl) ?_
  refine lv_iconst (v := 2) C.1 C.2.1 dX11_init_198 (by decide) ?_
  refine h_newa C h 12 (by decide) (by decide) rfl ac_int 2 (by decide) (by decide) (by decide) (by decide) (by decide) dX11_init_199 (fun H locs h => ?_)
  have C0 := C
  have C := Cx_le (Gle_up (κ := 12) (n := 2) Gle_rf) C
  have tn_24 : Ty E (gN (gN (gN (gN (gN (gN (gN (gN (gN (gN (gN (gN (gN (gN (gN (gN (gN (gN (gN (gN (gN (gN (gN (gN G 12 2000) 12 4000) 12 2) 12 16) 12 16) 12 16) 12 16) 12 16) 12 16) 12 16) 12 192) 12 192) 12 192) 12 192) 12 128) 12 128) 12 128) 12 128) 12 96) 12 96) 12 96) 12 96) 12 96) 12 2) (gN (gN (gN (gN (gN (gN (gN (gN (gN (gN (gN (gN (gN (gN (gN (gN (gN (gN (gN (gN (gN (gN (gN G 12 2000) 12 4000) 12 2) 12 16) 12 16) 12 16) 12 16) 12 16) 12 16) 12 16) 12 192) 12 192) 12 192) 12 192) 12 128) 12 128) 12 128) 12 128) 12 96) 12 96) 12 96) 12 96) 12 96).1 12 := Ty_new C0.2.2.2.2.2.2.2.2.2.1
  refine st_some ?_
  refine pt_11_27 C h rfl rfl (fun b hb => by cases hb; exact tn_24) (Ty_le (Gle_up Gle_rf) (Ty_le (Gle_up Gle_rf) (Ty_le (Gle_up Gle_rf) (Ty_le (Gle_up Gle_rf) (Ty_le (Gle_up Gle_rf) (Ty_le (Gle_up Gle_rf) (Ty_le (Gle_up Gle_rf) (Ty_le (Gle_up Gle_rf) (Ty_le (Gle_up Gle_rf) (Ty_le (Gle_up Gle_rf) (Ty_le (Gle_up Gle_rf) (Ty_le (Gle_up Gle_rf) (Ty_le (Gle_up Gle_rf) (Ty_le (Gle_up Gle_rf) (Ty_le (Gle_up Gle_rf) (Ty_le (Gle_up Gle_rf) (Ty_le (Gle_up Gle_rf) (Ty_le (Gle_up Gle_rf) (Ty_le (Gle_up Gle_rf) (Ty_le (Gle_up Gle_rf) (Ty_le (Gle_up Gle_rf) (Ty_le (Gle_up Gle_rf) (Ty_le (Gle_up Gle_rf) (Ty_le (Gle_up Gle_rf) tx0)))))))))))))))))))))))) fl_X11_79 dX11_init_201 (fun H locs h => ?_)
  refine lv_aload_n C.1 C.2.1 dX11_init_204 rfl (lv_at hl 0 rfl) ?_
  refine lv_sipush (v := 1040) C.1 C.2.1 dX11_init_205 (by decide) ?_
  refine h_newa C h 12 (by decide) (by decide) rfl ac_int 1040 (by decide) (by decide) (by decide) (by decide) (by decide) dX11_init_208 (fun H locs h => ?_)
  have C0 := C
  have C := Cx_le (Gle_up (κ := 12) (n := 1040) Gle_rf) C
  have tn_25 : Ty E (gN (gN (gN (gN (gN (gN (gN (gN (gN (gN (gN (gN (gN (gN (gN (gN (gN (gN (gN (gN (gN (gN (gN (gN (gN G 12 2000) 12 4000) 12 2) 12 16) 12 16) 12 16) 12 16) 12 16) 12 16) 12 16) 12 192) 12 192) 12 192) 12 192) 12 128) 12 128) 12 128) 12 128) 12 96) 12 96) 12 96) 12 96) 12 96) 12 2) 12 1040) (gN (gN (gN (gN (gN (gN (gN (gN (gN (gN (gN (gN (gN (gN (gN (gN (gN (gN (gN (gN (gN (gN (gN (gN G 12 2000) 12 4000) 12 2) 12 16) 12 16) 12 16) 12 16) 12 16) 12 16) 12 16) 12 192) 12 192) 12 192) 12 192) 12 128) 12 128) 12 128) 12 128) 12 96) 12 96) 12 96) 12 96) 12 96) 12 2).1 12 := Ty_new C0.2.2.2.2.2.2.2.2.2.1
  refine st_some ?_
  refine pt_11_28 C h rfl rfl (fun b hb => by cases hb; exact tn_25) (Ty_le (Gle_up Gle_rf) (Ty_le (Gle_up Gle_rf) (Ty_le (Gle_up Gle_rf) (Ty_le (Gle_up Gle_rf) (Ty_le (Gle_up Gle_rf) (Ty_le (Gle_up Gle_rf) (Ty_le (Gle_up Gle_rf) (Ty_le (Gle_up Gle_rf) (Ty_le (Gle_up Gle_rf) (Ty_le (Gle_up Gle_rf) (Ty_le (Gle_up Gle_rf) (Ty_le (Gle_up Gle_rf) (Ty_le (Gle_up Gle_rf) (Ty_le (Gle_up Gle_rf) (Ty_le (Gle_up Gle_rf) (Ty_le (Gle_up Gle_rf) (Ty_le (Gle_up Gle_rf) (Ty_le (Gle_up Gle_rf) (Ty_le (Gle_up Gle_rf) (Ty_le (Gle_up Gle_rf) (Ty_le (Gle_up Gle_rf) (Ty_le (Gle_up Gle_rf) (Ty_le (Gle_up Gle_rf) (Ty_le (Gle_up Gle_rf) (Ty_le (Gle_up Gle_rf) tx0))))))))))))))))))))))))) fl_X11_82 dX11_init_210 (fun H locs h => ?_)
  refine lv_aload_n C.1 C.2.1 dX11_init_213 rfl (lv_at hl 0 rfl) ?_
  refine lv_sipush (v := 1040) C.1 C.2.1 dX11_init_214 (by decide) ?_
  refine h_newa C h 12 (by decide) (by decide) rfl ac_int 1040 (by decide) (by decide) (by decide) (by decide) (by decide) dX11_init_217 (fun H locs h => ?_)
  have C0 := C
  have C := Cx_le (Gle_up (κ := 12) (n := 1040) Gle_rf) C
  have tn_26 : Ty E (gN (gN (gN (gN (gN (gN (gN (gN (gN (gN (gN (gN (gN (gN (gN (gN (gN (gN (gN (gN (gN (gN (gN (gN (gN (gN G 12 2000) 12 4000) 12 2) 12 16) 12 16) 12 16) 12 16) 12 16) 12 16) 12 16) 12 192) 12 192) 12 192) 12 192) 12 128) 12 128) 12 128) 12 128) 12 96) 12 96) 12 96) 12 96) 12 96) 12 2) 12 1040) 12 1040) (gN (gN (gN (gN (gN (gN (gN (gN (gN (gN (gN (gN (gN (gN (gN (gN (gN (gN (gN (gN (gN (gN (gN (gN (gN G 12 2000) 12 4000) 12 2) 12 16) 12 16) 12 16) 12 16) 12 16) 12 16) 12 16) 12 192) 12 192) 12 192) 12 192) 12 128) 12 128) 12 128) 12 128) 12 96) 12 96) 12 96) 12 96) 12 96) 12 2) 12 1040).1 12 := Ty_new C0.2.2.2.2.2.2.2.2.2.1
  refine st_some ?_
  refine pt_11_29 C h rfl rfl (fun b hb => by cases hb; exact tn_26) (Ty_le (Gle_up Gle_rf) (Ty_le (Gle_up Gle_rf) (Ty_le (Gle_up Gle_rf) (Ty_le (Gle_up Gle_rf) (Ty_le (Gle_up Gle_rf) (Ty_le (Gle_up Gle_rf) (Ty_le (Gle_up Gle_rf) (Ty_le (Gle_up Gle_rf) (Ty_le (Gle_up Gle_rf) (Ty_le (Gle_up Gle_rf) (Ty_le (Gle_up Gle_rf) (Ty_le (Gle_up Gle_rf) (Ty_le (Gle_up Gle_rf) (Ty_le (Gle_up Gle_rf) (Ty_le (Gle_up Gle_rf) (Ty_le (Gle_up Gle_rf) (Ty_le (Gle_up Gle_rf) (Ty_le (Gle_up Gle_rf) (Ty_le (Gle_up Gle_rf) (Ty_le (Gle_up Gle_rf) (Ty_le (Gle_up Gle_rf) (Ty_le (Gle_up Gle_rf) (Ty_le (Gle_up Gle_rf) (Ty_le (Gle_up Gle_rf) (Ty_le (Gle_up Gle_rf) (Ty_le (Gle_up Gle_rf) tx0)))))))))))))))))))))))))) fl_X11_85 dX11_init_219 (fun H locs h => ?_)
  refine lv_aload_n C.1 C.2.1 dX11_init_222 rfl (lv_at hl 0 rfl) ?_
  refine lv_sipush (v := 1040) C.1 C.2.1 dX11_init_223 (by decide) ?_
  refine h_newa C h 12 (by decide) (by decide) rfl ac_int 1040 (by decide) (by decide) (by decide) (by decide) (by decide) dX11_init_226 (fun H locs h => ?_)
  have C0 := C
  have C := Cx_le (Gle_up (κ := 12) (n := 1040) Gle_rf) C
  have tn_27 : Ty E (gN (gN (gN (gN (gN (gN (gN (gN (gN (gN (gN (gN (gN (gN (gN (gN (gN (gN (gN (gN (gN (gN (gN (gN (gN (gN (gN G 12 2000) 12 4000) 12 2) 12 16) 12 16) 12 16) 12 16) 12 16) 12 16) 12 16) 12 192) 12 192) 12 192) 12 192) 12 128) 12 128) 12 128) 12 128) 12 96) 12 96) 12 96) 12 96) 12 96) 12 2) 12 1040) 12 1040) 12 1040) (gN (gN (gN (gN (gN (gN (gN (gN (gN (gN (gN (gN (gN (gN (gN (gN (gN (gN (gN (gN (gN (gN (gN (gN (gN (gN G 12 2000) 12 4000) 12 2) 12 16) 12 16) 12 16) 12 16) 12 16) 12 16) 12 16) 12 192) 12 192) 12 192) 12 192) 12 128) 12 128) 12 128) 12 128) 12 96) 12 96) 12 96) 12 96) 12 96) 12 2) 12 1040) 12 1040).1 12 := Ty_new C0.2.2.2.2.2.2.2.2.2.1
  refine st_some ?_
  refine pt_11_30 C h rfl rfl (fun b hb => by cases hb; exact tn_27) (Ty_le (Gle_up Gle_rf) (Ty_le (Gle_up Gle_rf) (Ty_le (Gle_up Gle_rf) (Ty_le (Gle_up Gle_rf) (Ty_le (Gle_up Gle_rf) (Ty_le (Gle_up Gle_rf) (Ty_le (Gle_up Gle_rf) (Ty_le (Gle_up Gle_rf) (Ty_le (Gle_up Gle_rf) (Ty_le (Gle_up Gle_rf) (Ty_le (Gle_up Gle_rf) (Ty_le (Gle_up Gle_rf) (Ty_le (Gle_up Gle_rf) (Ty_le (Gle_up Gle_rf) (Ty_le (Gle_up Gle_rf) (Ty_le (Gle_up Gle_rf) (Ty_le (Gle_up Gle_rf) (Ty_le (Gle_up Gle_rf) (Ty_le (Gle_up Gle_rf) (Ty_le (Gle_up Gle_rf) (Ty_le (Gle_up Gle_rf) (Ty_le (Gle_up Gle_rf) (Ty_le (Gle_up Gle_rf) (Ty_le (Gle_up Gle_rf) (Ty_le (Gle_up Gle_rf) (Ty_le (Gle_up Gle_rf) (Ty_le (Gle_up Gle_rf) tx0))))))))))))))))))))))))))) fl_X11_88 dX11_init_228 (fun H locs h => ?_)
  refine lv_aload_n C.1 C.2.1 dX11_init_231 rfl (lv_at hl 0 rfl) ?_
  refine lv_sipush (v := 1040) C.1 C.2.1 dX11_init_232 (by decide) ?_
  refine h_newa C h 12 (by decide) (by decide) rfl ac_int 1040 (by decide) (by decide) (by decide) (by decide) (by decide) dX11_init_235 (fun H locs h => ?_)
  have C0 := C
  have C := Cx_le (Gle_up (κ := 12) (n := 1040) Gle_rf) C
  have tn_28 : Ty E (gN (gN (gN (gN (gN (gN (gN (gN (gN (gN (gN (gN (gN (gN (gN (gN (gN (gN (gN (gN (gN (gN (gN (gN (gN (gN (gN (gN G 12 2000) 12 4000) 12 2) 12 16) 12 16) 12 16) 12 16) 12 16) 12 16) 12 16) 12 192) 12 192) 12 192) 12 192) 12 128) 12 128) 12 128) 12 128) 12 96) 12 96) 12 96) 12 96) 12 96) 12 2) 12 1040) 12 1040) 12 1040) 12 1040) (gN (gN (gN (gN (gN (gN (gN (gN (gN (gN (gN (gN (gN (gN (gN (gN (gN (gN (gN (gN (gN (gN (gN (gN (gN (gN (gN G 12 2000) 12 4000) 12 2) 12 16) 12 16) 12 16) 12 16) 12 16) 12 16) 12 16) 12 192) 12 192) 12 192) 12 192) 12 128) 12 128) 12 128) 12 128) 12 96) 12 96) 12 96) 12 96) 12 96) 12 2) 12 1040) 12 1040) 12 1040).1 12 := Ty_new C0.2.2.2.2.2.2.2.2.2.1
  refine st_some ?_
  refine pt_11_31 C h rfl rfl (fun b hb => by cases hb; exact tn_28) (Ty_le (Gle_up Gle_rf) (Ty_le (Gle_up Gle_rf) (Ty_le (Gle_up Gle_rf) (Ty_le (Gle_up Gle_rf) (Ty_le (Gle_up Gle_rf) (Ty_le (Gle_up Gle_rf) (Ty_le (Gle_up Gle_rf) (Ty_le (Gle_up Gle_rf) (Ty_le (Gle_up Gle_rf) (Ty_le (Gle_up Gle_rf) (Ty_le (Gle_up Gle_rf) (Ty_le (Gle_up Gle_rf) (Ty_le (Gle_up Gle_rf) (Ty_le (Gle_up Gle_rf) (Ty_le (Gle_up Gle_rf) (Ty_le (Gle_up Gle_rf) (Ty_le (Gle_up Gle_rf) (Ty_le (Gle_up Gle_rf) (Ty_le (Gle_up Gle_rf) (Ty_le (Gle_up Gle_rf) (Ty_le (Gle_up Gle_rf) (Ty_le (Gle_up Gle_rf) (Ty_le (Gle_up Gle_rf) (Ty_le (Gle_up Gle_rf) (Ty_le (Gle_up Gle_rf) (Ty_le (Gle_up Gle_rf) (Ty_le (Gle_up Gle_rf) (Ty_le (Gle_up Gle_rf) tx0)))))))))))))))))))))))))))) fl_X11_91 dX11_init_237 (fun H locs h => ?_)
  refine lv_aload_n C.1 C.2.1 dX11_init_240 rfl (lv_at hl 0 rfl) ?_
  refine lv_sipush (v := 1040) C.1 C.2.1 dX11_init_241 (by decide) ?_
  refine h_newa C h 12 (by decide) (by decide) rfl ac_int 1040 (by decide) (by decide) (by decide) (by decide) (by decide) dX11_init_244 (fun H locs h => ?_)
  have C0 := C
  have C := Cx_le (Gle_up (κ := 12) (n := 1040) Gle_rf) C
  have tn_29 : Ty E (gN (gN (gN (gN (gN (gN (gN (gN (gN (gN (gN (gN (gN (gN (gN (gN (gN (gN (gN (gN (gN (gN (gN (gN (gN (gN (gN (gN (gN G 12 2000) 12 4000) 12 2) 12 16) 12 16) 12 16) 12 16) 12 16) 12 16) 12 16) 12 192) 12 192) 12 192) 12 192) 12 128) 12 128) 12 128) 12 128) 12 96) 12 96) 12 96) 12 96) 12 96) 12 2) 12 1040) 12 1040) 12 1040) 12 1040) 12 1040) (gN (gN (gN (gN (gN (gN (gN (gN (gN (gN (gN (gN (gN (gN (gN (gN (gN (gN (gN (gN (gN (gN (gN (gN (gN (gN (gN (gN G 12 2000) 12 4000) 12 2) 12 16) 12 16) 12 16) 12 16) 12 16) 12 16) 12 16) 12 192) 12 192) 12 192) 12 192) 12 128) 12 128) 12 128) 12 128) 12 96) 12 96) 12 96) 12 96) 12 96) 12 2) 12 1040) 12 1040) 12 1040) 12 1040).1 12 := Ty_new C0.2.2.2.2.2.2.2.2.2.1
  refine st_some ?_
  refine pt_11_32 C h rfl rfl (fun b hb => by cases hb; exact tn_29) (Ty_le (Gle_up Gle_rf) (Ty_le (Gle_up Gle_rf) (Ty_le (Gle_up Gle_rf) (Ty_le (Gle_up Gle_rf) (Ty_le (Gle_up Gle_rf) (Ty_le (Gle_up Gle_rf) (Ty_le (Gle_up Gle_rf) (Ty_le (Gle_up Gle_rf) (Ty_le (Gle_up Gle_rf) (Ty_le (Gle_up Gle_rf) (Ty_le (Gle_up Gle_rf) (Ty_le (Gle_up Gle_rf) (Ty_le (Gle_up Gle_rf) (Ty_le (Gle_up Gle_rf) (Ty_le (Gle_up Gle_rf) (Ty_le (Gle_up Gle_rf) (Ty_le (Gle_up Gle_rf) (Ty_le (Gle_up Gle_rf) (Ty_le (Gle_up Gle_rf) (Ty_le (Gle_up Gle_rf) (Ty_le (Gle_up Gle_rf) (Ty_le (Gle_up Gle_rf) (Ty_le (Gle_up Gle_rf) (Ty_le (Gle_up Gle_rf) (Ty_le (Gle_up Gle_rf) (Ty_le (Gle_up Gle_rf) (Ty_le (Gle_up Gle_rf) (Ty_le (Gle_up Gle_rf) (Ty_le (Gle_up Gle_rf) tx0))))))))))))))))))))))))))))) fl_X11_94 dX11_init_246 (fun H locs h => ?_)
  refine lv_aload_n C.1 C.2.1 dX11_init_249 rfl (lv_at hl 0 rfl) ?_
  refine lv_iconst (v := 2) C.1 C.2.1 dX11_init_250 (by decide) ?_
  refine h_newa C h 12 (by decide) (by decide) rfl ac_int 2 (by decide) (by decide) (by decide) (by decide) (by decide) dX11_init_251 (fun H locs h => ?_)
  have C0 := C
  have C := Cx_le (Gle_up (κ := 12) (n := 2) Gle_rf) C
  have tn_30 : Ty E (gN (gN (gN (gN (gN (gN (gN (gN (gN (gN (gN (gN (gN (gN (gN (gN (gN (gN (gN (gN (gN (gN (gN (gN (gN (gN (gN (gN (gN (gN G 12 2000) 12 4000) 12 2) 12 16) 12 16) 12 16) 12 16) 12 16) 12 16) 12 16) 12 192) 12 192) 12 192) 12 192) 12 128) 12 128) 12 128) 12 128) 12 96) 12 96) 12 96) 12 96) 12 96) 12 2) 12 1040) 12 1040) 12 1040) 12 1040) 12 1040) 12 2) (gN (gN (gN (gN (gN (gN (gN (gN (gN (gN (gN (gN (gN (gN (gN (gN (gN (gN (gN (gN (gN (gN (gN (gN (gN (gN (gN (gN (gN G 12 2000) 12 4000) 12 2) 12 16) 12 16) 12 16) 12 16) 12 16) 12 16) 12 16) 12 192) 12 192) 12 192) 12 192) 12 128) 12 128) 12 128) 12 128) 12 96) 12 96) 12 96) 12 96) 12 96) 12 2) 12 1040) 12 1040) 12 1040) 12 1040) 12 1040).1 12 := Ty_new C0.2.2.2.2.2.2.2.2.2.1
  refine st_some ?_
  refine pt_11_33 C h rfl rfl (fun b hb => by cases hb; exact tn_30) (Ty_le (Gle_up Gle_rf) (Ty_le (Gle_up Gle_rf) (Ty_le (Gle_up Gle_rf) (Ty_le (Gle_up Gle_rf) (Ty_le (Gle_up Gle_rf) (Ty_le (Gle_up Gle_rf) (Ty_le (Gle_up Gle_rf) (Ty_le (Gle_up Gle_rf) (Ty_le (Gle_up Gle_rf) (Ty_le (Gle_up Gle_rf) (Ty_le (Gle_up Gle_rf) (Ty_le (Gle_up Gle_rf) (Ty_le (Gle_up Gle_rf) (Ty_le (Gle_up Gle_rf) (Ty_le (Gle_up Gle_rf) (Ty_le (Gle_up Gle_rf) (Ty_le (Gle_up Gle_rf) (Ty_le (Gle_up Gle_rf) (Ty_le (Gle_up Gle_rf) (Ty_le (Gle_up Gle_rf) (Ty_le (Gle_up Gle_rf) (Ty_le (Gle_up Gle_rf) (Ty_le (Gle_up Gle_rf) (Ty_le (Gle_up Gle_rf) (Ty_le (Gle_up Gle_rf) (Ty_le (Gle_up Gle_rf) (Ty_le (Gle_up Gle_rf) (Ty_le (Gle_up Gle_rf) (Ty_le (Gle_up Gle_rf) (Ty_le (Gle_up Gle_rf) tx0)))))))))))))))))))))))))))))) fl_X11_97 dX11_init_253 (fun H locs h => ?_)
  refine lv_aload_n C.1 C.2.1 dX11_init_256 rfl (lv_at hl 0 rfl) ?_
  refine lv_sipush (v := 4200) C.1 C.2.1 dX11_init_257 (by decide) ?_
  refine h_newa C h 12 (by decide) (by decide) rfl ac_int 4200 (by decide) (by decide) (by decide) (by decide) (by decide) dX11_init_260 (fun H locs h => ?_)
  have C0 := C
  have C := Cx_le (Gle_up (κ := 12) (n := 4200) Gle_rf) C
  have tn_31 : Ty E (gN (gN (gN (gN (gN (gN (gN (gN (gN (gN (gN (gN (gN (gN (gN (gN (gN (gN (gN (gN (gN (gN (gN (gN (gN (gN (gN (gN (gN (gN (gN G 12 2000) 12 4000) 12 2) 12 16) 12 16) 12 16) 12 16) 12 16) 12 16) 12 16) 12 192) 12 192) 12 192) 12 192) 12 128) 12 128) 12 128) 12 128) 12 96) 12 96) 12 96) 12 96) 12 96) 12 2) 12 1040) 12 1040) 12 1040) 12 1040) 12 1040) 12 2) 12 4200) (gN (gN (gN (gN (gN (gN (gN (gN (gN (gN (gN (gN (gN (gN (gN (gN (gN (gN (gN (gN (gN (gN (gN (gN (gN (gN (gN (gN (gN (gN G 12 2000) 12 4000) 12 2) 12 16) 12 16) 12 16) 12 16) 12 16) 12 16) 12 16) 12 192) 12 192) 12 192) 12 192) 12 128) 12 128) 12 128) 12 128) 12 96) 12 96) 12 96) 12 96) 12 96) 12 2) 12 1040) 12 1040) 12 1040) 12 1040) 12 1040) 12 2).1 12 := Ty_new C0.2.2.2.2.2.2.2.2.2.1
  refine st_some ?_
  refine pt_11_34 C h rfl rfl (fun b hb => by cases hb; exact tn_31) (Ty_le (Gle_up Gle_rf) (Ty_le (Gle_up Gle_rf) (Ty_le (Gle_up Gle_rf) (Ty_le (Gle_up Gle_rf) (Ty_le (Gle_up Gle_rf) (Ty_le (Gle_up Gle_rf) (Ty_le (Gle_up Gle_rf) (Ty_le (Gle_up Gle_rf) (Ty_le (Gle_up Gle_rf) (Ty_le (Gle_up Gle_rf) (Ty_le (Gle_up Gle_rf) (Ty_le (Gle_up Gle_rf) (Ty_le (Gle_up Gle_rf) (Ty_le (Gle_up Gle_rf) (Ty_le (Gle_up Gle_rf) (Ty_le (Gle_up Gle_rf) (Ty_le (Gle_up Gle_rf) (Ty_le (Gle_up Gle_rf) (Ty_le (Gle_up Gle_rf) (Ty_le (Gle_up Gle_rf) (Ty_le (Gle_up Gle_rf) (Ty_le (Gle_up Gle_rf) (Ty_le (Gle_up Gle_rf) (Ty_le (Gle_up Gle_rf) (Ty_le (Gle_up Gle_rf) (Ty_le (Gle_up Gle_rf) (Ty_le (Gle_up Gle_rf) (Ty_le (Gle_up Gle_rf) (Ty_le (Gle_up Gle_rf) (Ty_le (Gle_up Gle_rf) (Ty_le (Gle_up Gle_rf) tx0))))))))))))))))))))))))))))))) fl_X11_100 dX11_init_262 (fun H locs h => ?_)
  refine lv_aload_n C.1 C.2.1 dX11_init_265 rfl (lv_at hl 0 rfl) ?_
  refine lv_sipush (v := 4200) C.1 C.2.1 dX11_init_266 (by decide) ?_
  refine h_newa C h 12 (by decide) (by decide) rfl ac_int 4200 (by decide) (by decide) (by decide) (by decide) (by decide) dX11_init_269 (fun H locs h => ?_)
  have C0 := C
  have C := Cx_le (Gle_up (κ := 12) (n := 4200) Gle_rf) C
  have tn_32 : Ty E (gN (gN (gN (gN (gN (gN (gN (gN (gN (gN (gN (gN (gN (gN (gN (gN (gN (gN (gN (gN (gN (gN (gN (gN (gN (gN (gN (gN (gN (gN (gN (gN G 12 2000) 12 4000) 12 2) 12 16) 12 16) 12 16) 12 16) 12 16) 12 16) 12 16) 12 192) 12 192) 12 192) 12 192) 12 128) 12 128) 12 128) 12 128) 12 96) 12 96) 12 96) 12 96) 12 96) 12 2) 12 1040) 12 1040) 12 1040) 12 1040) 12 1040) 12 2) 12 4200) 12 4200) (gN (gN (gN (gN (gN (gN (gN (gN (gN (gN (gN (gN (gN (gN (gN (gN (gN (gN (gN (gN (gN (gN (gN (gN (gN (gN (gN (gN (gN (gN (gN G 12 2000) 12 4000) 12 2) 12 16) 12 16) 12 16) 12 16) 12 16) 12 16) 12 16) 12 192) 12 192) 12 192) 12 192) 12 128) 12 128) 12 128) 12 128) 12 96) 12 96) 12 96) 12 96) 12 96) 12 2) 12 1040) 12 1040) 12 1040) 12 1040) 12 1040) 12 2) 12 4200).1 12 := Ty_new C0.2.2.2.2.2.2.2.2.2.1
  refine st_some ?_
  refine pt_11_35 C h rfl rfl (fun b hb => by cases hb; exact tn_32) (Ty_le (Gle_up Gle_rf) (Ty_le (Gle_up Gle_rf) (Ty_le (Gle_up Gle_rf) (Ty_le (Gle_up Gle_rf) (Ty_le (Gle_up Gle_rf) (Ty_le (Gle_up Gle_rf) (Ty_le (Gle_up Gle_rf) (Ty_le (Gle_up Gle_rf) (Ty_le (Gle_up Gle_rf) (Ty_le (Gle_up Gle_rf) (Ty_le (Gle_up Gle_rf) (Ty_le (Gle_up Gle_rf) (Ty_le (Gle_up Gle_rf) (Ty_le (Gle_up Gle_rf) (Ty_le (Gle_up Gle_rf) (Ty_le (Gle_up Gle_rf) (Ty_le (Gle_up Gle_rf) (Ty_le (Gle_up Gle_rf) (Ty_le (Gle_up Gle_rf) (Ty_le (Gle_up Gle_rf) (Ty_le (Gle_up Gle_rf) (Ty_le (Gle_up Gle_rf) (Ty_le (Gle_up Gle_rf) (Ty_le (Gle_up Gle_rf) (Ty_le (Gle_up Gle_rf) (Ty_le (Gle_up Gle_rf) (Ty_le (Gle_up Gle_rf) (Ty_le (Gle_up Gle_rf) (Ty_le (Gle_up Gle_rf) (Ty_le (Gle_up Gle_rf) (Ty_le (Gle_up Gle_rf) (Ty_le (Gle_up Gle_rf) tx0)))))))))))))))))))))))))))))))) fl_X11_103 dX11_init_271 (fun H locs h => ?_)
  refine lv_aload_n C.1 C.2.1 dX11_init_274 rfl (lv_at hl 0 rfl) ?_
  refine lv_sipush (v := 4200) C.1 C.2.1 dX11_init_275 (by decide) ?_
  refine h_newa C h 12 (by decide) (by decide) rfl ac_int 4200 (by decide) (by decide) (by decide) (by decide) (by decide) dX11_init_278 (fun H locs h => ?_)
  have C0 := C
  have C := Cx_le (Gle_up (κ := 12) (n := 4200) Gle_rf) C
  have tn_33 : Ty E (gN (gN (gN (gN (gN (gN (gN (gN (gN (gN (gN (gN (gN (gN (gN (gN (gN (gN (gN (gN (gN (gN (gN (gN (gN (gN (gN (gN (gN (gN (gN (gN (gN G 12 2000) 12 4000) 12 2) 12 16) 12 16) 12 16) 12 16) 12 16) 12 16) 12 16) 12 192) 12 192) 12 192) 12 192) 12 128) 12 128) 12 128) 12 128) 12 96) 12 96) 12 96) 12 96) 12 96) 12 2) 12 1040) 12 1040) 12 1040) 12 1040) 12 1040) 12 2) 12 4200) 12 4200) 12 4200) (gN (gN (gN (gN (gN (gN (gN (gN (gN (gN (gN (gN (gN (gN (gN (gN (gN (gN (gN (gN (gN (gN (gN (gN (gN (gN (gN (gN (gN (gN (gN (gN G 12 2000) 12 4000) 12 2) 12 16) 12 16) 12 16) 12 16) 12 16) 12 16) 12 16) 12 192) 12 192) 12 192) 12 192) 12 128) 12 128) 12 128) 12 128) 12 96) 12 96) 12 96) 12 96) 12 96) 12 2) 12 1040) 12 1040) 12 1040) 12 1040) 12 1040) 12 2) 12 4200) 12 4200).1 12 := Ty_new C0.2.2.2.2.2.2.2.2.2.1
  refine st_some ?_
  refine pt_11_36 C h rfl rfl (fun b hb => by cases hb; exact tn_33) (Ty_le (Gle_up Gle_rf) (Ty_le (Gle_up Gle_rf) (Ty_le (Gle_up Gle_rf) (Ty_le (Gle_up Gle_rf) (Ty_le (Gle_up Gle_rf) (Ty_le (Gle_up Gle_rf) (Ty_le (Gle_up Gle_rf) (Ty_le (Gle_up Gle_rf) (Ty_le (Gle_up Gle_rf) (Ty_le (Gle_up Gle_rf) (Ty_le (Gle_up Gle_rf) (Ty_le (Gle_up Gle_rf) (Ty_le (Gle_up Gle_rf) (Ty_le (Gle_up Gle_rf) (Ty_le (Gle_up Gle_rf) (Ty_le (Gle_up Gle_rf) (Ty_le (Gle_up Gle_rf) (Ty_le (Gle_up Gle_rf) (Ty_le (Gle_up Gle_rf) (Ty_le (Gle_up Gle_rf) (Ty_le (Gle_up Gle_rf) (Ty_le (Gle_up Gle_rf) (Ty_le (Gle_up Gle_rf) (Ty_le (Gle_up Gle_rf) (Ty_le (Gle_up Gle_rf) (Ty_le (Gle_up Gle_rf) (Ty_le (Gle_up Gle_rf) (Ty_le (Gle_up Gle_rf) (Ty_le (Gle_up Gle_rf) (Ty_le (Gle_up Gle_rf) (Ty_le (Gle_up Gle_rf) (Ty_le (Gle_up Gle_rf) (Ty_le (Gle_up Gle_rf) tx0))))))))))))))))))))))))))))))))) fl_X11_106 dX11_init_280 (fun H locs h => ?_)
  refine lv_aload_n C.1 C.2.1 dX11_init_283 rfl (lv_at hl 0 rfl) ?_
  refine lv_sipush (v := 4200) C.1 C.2.1 dX11_init_284 (by decide) ?_
  refine h_newa C h 12 (by decide) (by decide) rfl ac_int 4200 (by decide) (by decide) (by decide) (by decide) (by decide) dX11_init_287 (fun H locs h => ?_)
  have C0 := C
  have C := Cx_le (Gle_up (κ := 12) (n := 4200) Gle_rf) C
  have tn_34 : Ty E (gN (gN (gN (gN (gN (gN (gN (gN (gN (gN (gN (gN (gN (gN (gN (gN (gN (gN (gN (gN (gN (gN (gN (gN (gN (gN (gN (gN (gN (gN (gN (gN (gN (gN G 12 2000) 12 4000) 12 2) 12 16) 12 16) 12 16) 12 16) 12 16) 12 16) 12 16) 12 192) 12 192) 12 192) 12 192) 12 128) 12 128) 12 128) 12 128) 12 96) 12 96) 12 96) 12 96) 12 96) 12 2) 12 1040) 12 1040) 12 1040) 12 1040) 12 1040) 12 2) 12 4200) 12 4200) 12 4200) 12 4200) (gN (gN (gN (gN (gN (gN (gN (gN (gN (gN (gN (gN (gN (gN (gN (gN (gN (gN (gN (gN (gN (gN (gN (gN (gN (gN (gN (gN (gN (gN (gN (gN (gN G 12 2000) 12 4000) 12 2) 12 16) 12 16) 12 16) 12 16) 12 16) 12 16) 12 16) 12 192) 12 192) 12 192) 12 192) 12 128) 12 128) 12 128) 12 128) 12 96) 12 96) 12 96) 12 96) 12 96) 12 2) 12 1040) 12 1040) 12 1040) 12 1040) 12 1040) 12 2) 12 4200) 12 4200) 12 4200).1 12 := Ty_new C0.2.2.2.2.2.2.2.2.2.1
  refine st_some ?_
  refine pt_11_37 C h rfl rfl (fun b hb => by cases hb; exact tn_34) (Ty_le (Gle_up Gle_rf) (Ty_le (Gle_up Gle_rf) (Ty_le (Gle_up Gle_rf) (Ty_le (Gle_up Gle_rf) (Ty_le (Gle_up Gle_rf) (Ty_le (Gle_up Gle_rf) (Ty_le (Gle_up Gle_rf) (Ty_le (Gle_up Gle_rf) (Ty_le (Gle_up Gle_rf) (Ty_le (Gle_up Gle_rf) (Ty_le (Gle_up Gle_rf) (Ty_le (Gle_up Gle_rf) (Ty_le (Gle_up Gle_rf) (Ty_le (Gle_up Gle_rf) (Ty_le (Gle_up Gle_rf) (Ty_le (Gle_up Gle_rf) (Ty_le (Gle_up Gle_rf) (Ty_le (Gle_up Gle_rf) (Ty_le (Gle_up Gle_rf) (Ty_le (Gle_up Gle_rf) (Ty_le (Gle_up Gle_rf) (Ty_le (Gle_up Gle_rf) (Ty_le (Gle_up Gle_rf) (Ty_le (Gle_up Gle_rf) (Ty_le (Gle_up Gle_rf) (Ty_le (Gle_up Gle_rf) (Ty_le (Gle_up Gle_rf) (Ty_le (Gle_up Gle_rf) (Ty_le (Gle_up Gle_rf) (Ty_le (Gle_up Gle_rf) (Ty_le (Gle_up Gle_rf) (Ty_le (Gle_up Gle_rf) (Ty_le (Gle_up Gle_rf) (Ty_le (Gle_up Gle_rf) tx0)))))))))))))))))))))))))))))))))) fl_X11_109 dX11_init_289 (fun H locs h => ?_)
  refine lv_aload_n C.1 C.2.1 dX11_init_292 rfl (lv_at hl 0 rfl) ?_
  refine lv_sipush (v := 4200) C.1 C.2.1 dX11_init_293 (by decide) ?_
  refine h_newa C h 12 (by decide) (by decide) rfl ac_int 4200 (by decide) (by decide) (by decide) (by decide) (by decide) dX11_init_296 (fun H locs h => ?_)
  have C0 := C
  have C := Cx_le (Gle_up (κ := 12) (n := 4200) Gle_rf) C
  have tn_35 : Ty E (gN (gN (gN (gN (gN (gN (gN (gN (gN (gN (gN (gN (gN (gN (gN (gN (gN (gN (gN (gN (gN (gN (gN (gN (gN (gN (gN (gN (gN (gN (gN (gN (gN (gN (gN G 12 2000) 12 4000) 12 2) 12 16) 12 16) 12 16) 12 16) 12 16) 12 16) 12 16) 12 192) 12 192) 12 192) 12 192) 12 128) 12 128) 12 128) 12 128) 12 96) 12 96) 12 96) 12 96) 12 96) 12 2) 12 1040) 12 1040) 12 1040) 12 1040) 12 1040) 12 2) 12 4200) 12 4200) 12 4200) 12 4200) 12 4200) (gN (gN (gN (gN (gN (gN (gN (gN (gN (gN (gN (gN (gN (gN (gN (gN (gN (gN (gN (gN (gN (gN (gN (gN (gN (gN (gN (gN (gN (gN (gN (gN (gN (gN G 12 2000) 12 4000) 12 2) 12 16) 12 16) 12 16) 12 16) 12 16) 12 16) 12 16) 12 192) 12 192) 12 192) 12 192) 12 128) 12 128) 12 128) 12 128) 12 96) 12 96) 12 96) 12 96) 12 96) 12 2) 12 1040) 12 1040) 12 1040) 12 1040) 12 1040) 12 2) 12 4200) 12 4200) 12 4200) 12 4200).1 12 := Ty_new C0.2.2.2.2.2.2.2.2.2.1
  refine st_some ?_
  refine pt_11_38 C h rfl rfl (fun b hb => by cases hb; exact tn_35) (Ty_le (Gle_up Gle_rf) (Ty_le (Gle_up Gle_rf) (Ty_le (Gle_up Gle_rf) (Ty_le (Gle_up Gle_rf) (Ty_le (Gle_up Gle_rf) (Ty_le (Gle_up Gle_rf) (Ty_le (Gle_up Gle_rf) (Ty_le (Gle_up Gle_rf) (Ty_le (Gle_up Gle_rf) (Ty_le (Gle_up Gle_rf) (Ty_le (Gle_up Gle_rf) (Ty_le (Gle_up Gle_rf) (Ty_le (Gle_up Gle_rf) (Ty_le (Gle_up Gle_rf) (Ty_le (Gle_up Gle_rf) (Ty_le (Gle_up Gle_rf) (Ty_le (Gle_up Gle_rf) (Ty_le (Gle_up Gle_rf) (Ty_le (Gle_up Gle_rf) (Ty_le (Gle_up Gle_rf) (Ty_le (Gle_up Gle_rf) (Ty_le (Gle_up Gle_rf) (Ty_le (Gle_up Gle_rf) (Ty_le (Gle_up Gle_rf) (Ty_le (Gle_up Gle_rf) (Ty_le (Gle_up Gle_rf) (Ty_le (Gle_up Gle_rf) (Ty_le (Gle_up Gle_rf) (Ty_le (Gle_up Gle_rf) (Ty_le (Gle_up Gle_rf) (Ty_le (Gle_up Gle_rf) (Ty_le (Gle_up Gle_rf) (Ty_le (Gle_up Gle_rf) (Ty_le (Gle_up Gle_rf) (Ty_le (Gle_up Gle_rf) tx0))))))))))))))))))))))))))))))))))) fl_X11_112 dX11_init_298 (fun H locs h => ?_)
  refine lv_aload_n C.1 C.2.1 dX11_init_301 rfl (lv_at hl 0 rfl) ?_
  refine lv_sipush (v := 4200) C.1 C.2.1 dX11_init_302 (by decide) ?_
  refine h_newa C h 12 (by decide) (by decide) rfl ac_int 4200 (by decide) (by decide) (by decide) (by decide) (by decide) dX11_init_305 (fun H locs h => ?_)
  have C0 := C
  have C := Cx_le (Gle_up (κ := 12) (n := 4200) Gle_rf) C
  have tn_36 : Ty E (gN (gN (gN (gN (gN (gN (gN (gN (gN (gN (gN (gN (gN (gN (gN (gN (gN (gN (gN (gN (gN (gN (gN (gN (gN (gN (gN (gN (gN (gN (gN (gN (gN (gN (gN (gN G 12 2000) 12 4000) 12 2) 12 16) 12 16) 12 16) 12 16) 12 16) 12 16) 12 16) 12 192) 12 192) 12 192) 12 192) 12 128) 12 128) 12 128) 12 128) 12 96) 12 96) 12 96) 12 96) 12 96) 12 2) 12 1040) 12 1040) 12 1040) 12 1040) 12 1040) 12 2) 12 4200) 12 4200) 12 4200) 12 4200) 12 4200) 12 4200) (gN (gN (gN (gN (gN (gN (gN (gN (gN (gN (gN (gN (gN (gN (gN (gN (gN (gN (gN (gN (gN (gN (gN (gN (gN (gN (gN (gN (gN (gN (gN (gN (gN (gN (gN G 12 2000) 12 4000) 12 2) 12 16) 12 16) 12 16) 12 16) 12 16) 12 16) 12 16) 12 192) 12 192) 12 192) 12 192) 12 128) 12 128) 12 128) 12 128) 12 96) 12 96) 12 96) 12 96) 12 96) 12 2) 12 1040) 12 1040) 12 1040) 12 1040) 12 1040) 12 2) 12 4200) 12 4200) 12 4200) 12 4200) 12 4200).1 12 := Ty_new C0.2.2.2.2.2.2.2.2.2.1
  refine st_some ?_
  refine pt_11_39 C h rfl rfl (fun b hb => by cases hb; exact tn_36) (Ty_le (Gle_up Gle_rf) (Ty_le (Gle_up Gle_rf) (Ty_le (Gle_up Gle_rf) (Ty_le (Gle_up Gle_rf) (Ty_le (Gle_up Gle_rf) (Ty_le (Gle_up Gle_rf) (Ty_le (Gle_up Gle_rf) (Ty_le (Gle_up Gle_rf) (Ty_le (Gle_up Gle_rf) (Ty_le (Gle_up Gle_rf) (Ty_le (Gle_up Gle_rf) (Ty_le (Gle_up Gle_rf) (Ty_le (Gle_up Gle_rf) (Ty_le (Gle_up Gle_rf) (Ty_le (Gle_up Gle_rf) (Ty_le (Gle_up Gle_rf) (Ty_le (Gle_up Gle_rf) (Ty_le (Gle_up Gle_rf) (Ty_le (Gle_up Gle_rf) (Ty_le (Gle_up Gle_rf) (Ty_le (Gle_up Gle_rf) (Ty_le (Gle_up Gle_rf) (Ty_le (Gle_up Gle_rf) (Ty_le (Gle_up Gle_rf) (Ty_le (Gle_up Gle_rf) (Ty_le (Gle_up Gle_rf) (Ty_le (Gle_up Gle_rf) (Ty_le (Gle_up Gle_rf) (Ty_le (Gle_up Gle_rf) (Ty_le (Gle_up Gle_rf) (Ty_le (Gle_up Gle_rf) (Ty_le (Gle_up Gle_rf) (Ty_le (Gle_up Gle_rf) (Ty_le (Gle_up Gle_rf) (Ty_le (Gle_up Gle_rf) (Ty_le (Gle_up Gle_rf) tx0)))))))))))))))))))))))))))))))))))) fl_X11_115 dX11_init_307 (fun H locs h => ?_)
  refine lv_aload_n C.1 C.2.1 dX11_init_310 rfl (lv_at hl 0 rfl) ?_
  refine lv_sipush (v := 4200) C.1 C.2.1 dX11_init_311 (by decide) ?_
  refine h_newa C h 12 (by decide) (by decide) rfl ac_int 4200 (by decide) (by decide) (by decide) (by decide) (by decide) dX11_init_314 (fun H locs h => ?_)
  have C0 := C
  have C := Cx_le (Gle_up (κ := 12) (n := 4200) Gle_rf) C
  have tn_37 : Ty E (gN (gN (gN (gN (gN (gN (gN (gN (gN (gN (gN (gN (gN (gN (gN (gN (gN (gN (gN (gN (gN (gN (gN (gN (gN (gN (gN (gN (gN (gN (gN (gN (gN (gN (gN (gN (gN G 12 2000) 12 4000) 12 2) 12 16) 12 16) 12 16) 12 16) 12 16) 12 16) 12 16) 12 192) 12 192) 12 192) 12 192) 12 128) 12 128) 12 128) 12 128) 12 96) 12 96) 12 96) 12 96) 12 96) 12 2) 12 1040) 12 1040) 12 1040) 12 1040) 12 1040) 12 2) 12 4200) 12 4200) 12 4200) 12 4200) 12 4200) 12 4200) 12 4200) (gN (gN (gN (gN (gN (gN (gN (gN (gN (gN (gN (gN (gN (gN (gN (gN (gN (gN (gN (gN (gN (gN (gN (gN (gN (gN (gN (gN (gN (gN (gN (gN (gN (gN (gN (gN G 12 2000) 12 4000) 12 2) 12 16) 12 16) 12 16) 12 16) 12 16) 12 16) 12 16) 12 192) 12 192) 12 192) 12 192) 12 128) 12 128) 12 128) 12 128) 12 96) 12 96) 12 96) 12 96) 12 96) 12 2) 12 1040) 12 1040) 12 1040) 12 1040) 12 1040) 12 2) 12 4200) 12 4200) 12 4200) 12 4200) 12 4200) 12 4200).1 12 := Ty_new C0.2.2.2.2.2.2.2.2.2.1
  refine st_some ?_
  refine pt_11_40 C h rfl rfl (fun b hb => by cases hb; exact tn_37) (Ty_le (Gle_up Gle_rf) (Ty_le (Gle_up Gle_rf) (Ty_le (Gle_up Gle_rf) (Ty_le (Gle_up Gle_rf) (Ty_le (Gle_up Gle_rf) (Ty_le (Gle_up Gle_rf) (Ty_le (Gle_up Gle_rf) (Ty_le (Gle_up Gle_rf) (Ty_le (Gle_up Gle_rf) (Ty_le (Gle_up Gle_rf) (Ty_le (Gle_up Gle_rf) (Ty_le (Gle_up Gle_rf) (Ty_le (Gle_up Gle_rf) (Ty_le (Gle_up Gle_rf) (Ty_le (Gle_up Gle_rf) (Ty_le (Gle_up Gle_rf) (Ty_le (Gle_up Gle_rf) (Ty_le (Gle_up Gle_rf) (Ty_le (Gle_up Gle_rf) (Ty_le (Gle_up Gle_rf) (Ty_le (Gle_up Gle_rf) (Ty_le (Gle_up Gle_rf) (Ty_le (Gle_up Gle_rf) (Ty_le (Gle_up Gle_rf) (Ty_le (Gle_up Gle_rf) (Ty_le (Gle_up Gle_rf) (Ty_le (Gle_up Gle_rf) (Ty_le (Gle_up Gle_rf) (Ty_le (Gle_up Gle_rf) (Ty_le (Gle_up Gle_rf) (Ty_le (Gle_up Gle_rf) (Ty_le (Gle_up Gle_rf) (Ty_le (Gle_up Gle_rf) (Ty_le (Gle_up Gle_rf) (Ty_le (Gle_up Gle_rf) (Ty_le (Gle_up Gle_rf) (Ty_le (Gle_up Gle_rf) tx0))))))))))))))))))))))))))))))))))))) fl_X11_118 dX11_init_316 (fun H locs h => ?_)
  refine lv_aload_n C.1 C.2.1 dX11_init_319 rfl (lv_at hl 0 rfl) ?_
  refine lv_bipush (v := 16) C.1 C.2.1 dX11_init_320 (by decide) ?_
  refine h_newa C h 12 (by decide) (by decide) rfl ac_int 16 (by decide) (by decide) (by decide) (by decide) (by decide) dX11_init_322 (fun H locs h => ?_)
  have C0 := C
  have C := Cx_le (Gle_up (κ := 12) (n := 16) Gle_rf) C
  have tn_38 : Ty E (gN (gN (gN (gN (gN (gN (gN (gN (gN (gN (gN (gN (gN (gN (gN (gN (gN (gN (gN (gN (gN (gN (gN (gN (gN (gN (gN (gN (gN (gN (gN (gN (gN (gN (gN (gN (gN (gN G 12 2000) 12 4000) 12 2) 12 16) 12 16) 12 16) 12 16) 12 16) 12 16) 12 16) 12 192) 12 192) 12 192) 12 192) 12 128) 12 128) 12 128) 12 128) 12 96) 12 96) 12 96) 12 96) 12 96) 12 2) 12 1040) 12 1040) 12 1040) 12 1040) 12 1040) 12 2) 12 4200) 12 4200) 12 4200) 12 4200) 12 4200) 12 4200) 12 4200) 12 16) (gN (gN (gN (gN (gN (gN (gN (gN (gN (gN (gN (gN (gN (gN (gN (gN (gN (gN (gN (gN (gN (gN (gN (gN (gN (gN (gN (gN (gN (gN (gN (gN (gN (gN (gN (gN (gN G 12 2000) 12 4000) 12 2) 12 16) 12 16) 12 16) 12 16) 12 16) 12 16) 12 16) 12 192) 12 192) 12 192) 12 192) 12 128) 12 128) 12 128) 12 128) 12 96) 12 96) 12 96) 12 96) 12 96) 12 2) 12 1040) 12 1040) 12 1040) 12 1040) 12 1040) 12 2) 12 4200) 12 4200) 12 4200) 12 4200) 12 4200) 12 4200) 12 4200).1 12 := Ty_new C0.2.2.2.2.2.2.2.2.2.1
  refine st_some ?_
  refine pt_11_49 C h rfl rfl (fun b hb => by cases hb; exact tn_38) (Ty_le (Gle_up Gle_rf) (Ty_le (Gle_up Gle_rf) (Ty_le (Gle_up Gle_rf) (Ty_le (Gle_up Gle_rf) (Ty_le (Gle_up Gle_rf) (Ty_le (Gle_up Gle_rf) (Ty_le (Gle_up Gle_rf) (Ty_le (Gle_up Gle_rf) (Ty_le (Gle_up Gle_rf) (Ty_le (Gle_up Gle_rf) (Ty_le (Gle_up Gle_rf) (Ty_le (Gle_up Gle_rf) (Ty_le (Gle_up Gle_rf) (Ty_le (Gle_up Gle_rf) (Ty_le (Gle_up Gle_rf) (Ty_le (Gle_up Gle_rf) (Ty_le (Gle_up Gle_rf) (Ty_le (Gle_up Gle_rf) (Ty_le (Gle_up Gle_rf) (Ty_le (Gle_up Gle_rf) (Ty_le (Gle_up Gle_rf) (Ty_le (Gle_up Gle_rf) (Ty_le (Gle_up Gle_rf) (Ty_le (Gle_up Gle_rf) (Ty_le (Gle_up Gle_rf) (Ty_le (Gle_up Gle_rf) (Ty_le (Gle_up Gle_rf) (Ty_le (Gle_up Gle_rf) (Ty_le (Gle_up Gle_rf) (Ty_le (Gle_up Gle_rf) (Ty_le (Gle_up Gle_rf) (Ty_le (Gle_up Gle_rf) (Ty_le (Gle_up Gle_rf) (Ty_le (Gle_up Gle_rf) (Ty_le (Gle_up Gle_rf) (Ty_le (Gle_up Gle_rf) (Ty_le (Gle_up Gle_rf) (Ty_le (Gle_up Gle_rf) tx0)))))))))))))))))))))))))))))))))))))) fl_X11_121 dX11_init_324 (fun H locs h => ?_)
  refine lv_aload_n C.1 C.2.1 dX11_init_327 rfl (lv_at hl 0 rfl) ?_
  refine lv_sipush (v := 4200) C.1 C.2.1 dX11_init_328 (by decide) ?_
  refine h_newa C h 12 (by decide) (by decide) rfl ac_int 4200 (by decide) (by decide) (by decide) (by decide) (by decide) dX11_init_331 (fun H locs h => ?_)
  have C0 := C
  have C := Cx_le (Gle_up (κ := 12) (n := 4200) Gle_rf) C
  have tn_39 : Ty E (gN (gN (gN (gN (gN (gN (gN (gN (gN (gN (gN (gN (gN (gN (gN (gN (gN (gN (gN (gN (gN (gN (gN (gN (gN (gN (gN (gN (gN (gN (gN (gN (gN (gN (gN (gN (gN (gN (gN G 12 2000) 12 4000) 12 2) 12 16) 12 16) 12 16) 12 16) 12 16) 12 16) 12 16) 12 192) 12 192) 12 192) 12 192) 12 128) 12 128) 12 128) 12 128) 12 96) 12 96) 12 96) 12 96) 12 96) 12 2) 12 1040) 12 1040) 12 1040) 12 1040) 12 1040) 12 2) 12 4200) 12 4200) 12 4200) 12 4200) 12 4200) 12 4200) 12 4200) 12 16) 12 4200) (gN (gN (gN (gN (gN (gN (gN (gN (gN (gN (gN (gN (gN (gN (gN (gN (gN (gN (gN (gN (gN (gN (gN (gN (gN (gN (gN (gN (gN (gN (gN (gN (gN (gN (gN (gN (gN (gN G 12 2000) 12 4000) 12 2) 12 16) 12 16) 12 16) 12 16) 12 16) 12 16) 12 16) 12 192) 12 192) 12 192) 12 192) 12 128) 12 128) 12 128) 12 128) 12 96) 12 96) 12 96) 12 96) 12 96) 12 2) 12 1040) 12 1040) 12 1040) 12 1040) 12 1040) 12 2) 12 4200) 12 4200) 12 4200) 12 4200) 12 4200) 12 4200) 12 4200) 12 16).1 12 := Ty_new C0.2.2.2.2.2.2.2.2.2.1
  refine st_some ?_
  refine pt_11_50 C h rfl rfl (fun b hb => by cases hb; exact tn_39) (Ty_le (Gle_up Gle_rf) (Ty_le (Gle_up Gle_rf) (Ty_le (Gle_up Gle_rf) (Ty_le (Gle_up Gle_rf) (Ty_le (Gle_up Gle_rf) (Ty_le (Gle_up Gle_rf) (Ty_le (Gle_up Gle_rf) (Ty_le (Gle_up Gle_rf) (Ty_le (Gle_up Gle_rf) (Ty_le (Gle_up Gle_rf) (Ty_le (Gle_up Gle_rf) (Ty_le (Gle_up Gle_rf) (Ty_le (Gle_up Gle_rf) (Ty_le (Gle_up Gle_rf) (Ty_le (Gle_up Gle_rf) (Ty_le (Gle_up Gle_rf) (Ty_le (Gle_up Gle_rf) (Ty_le (Gle_up Gle_rf) (Ty_le (Gle_up Gle_rf) (Ty_le (Gle_up Gle_rf) (Ty_le (Gle_up Gle_rf) (Ty_le (Gle_up Gle_rf) (Ty_le (Gle_up Gle_rf) (Ty_le (Gle_up Gle_rf) (Ty_le (Gle_up Gle_rf) (Ty_le (Gle_up Gle_rf) (Ty_le (Gle_up Gle_rf) (Ty_le (Gle_up Gle_rf) (Ty_le (Gle_up Gle_rf) (Ty_le (Gle_up Gle_rf) (Ty_le (Gle_up Gle_rf) (Ty_le (Gle_up Gle_rf) (Ty_le (Gle_up Gle_rf) (Ty_le (Gle_up Gle_rf) (Ty_le (Gle_up Gle_rf) (Ty_le (Gle_up Gle_rf) (Ty_le (Gle_up Gle_rf) (Ty_le (Gle_up Gle_rf) (Ty_le (Gle_up Gle_rf) tx0))))))))))))))))))))))))))))))))))))))) fl_X11_124 dX11_init_333 (fun H locs h => ?_)
  refine lv_aload_n C.1 C.2.1 dX11_init_336 rfl (lv_at hl 0 rfl) ?_
  refine lv_sipush (v := 4200) C.1 C.2.1 dX11_init_337 (by decide) ?_
  refine h_newa C h 12 (by decide) (by decide) rfl ac_int 4200 (by decide) (by decide) (by decide) (by decide) (by decide) dX11_init_340 (fun H locs h => ?_)
  have C0 := C
  have C := Cx_le (Gle_up (κ := 12) (n := 4200) Gle_rf) C
  have tn_40 : Ty E (gN (gN (gN (gN (gN (gN (gN (gN (gN (gN (gN (gN (gN (gN (gN (gN (gN (gN (gN (gN (gN (gN (gN (gN (gN (gN (gN (gN (gN (gN (gN (gN (gN (gN (gN (gN (gN (gN (gN (gN G 12 2000) 12 4000) 12 2) 12 16) 12 16) 12 16) 12 16) 12 16) 12 16) 12 16) 12 192) 12 192) 12 192) 12 192) 12 128) 12 128) 12 128) 12 128) 12 96) 12 96) 12 96) 12 96) 12 96) 12 2) 12 1040) 12 1040) 12 1040) 12 1040) 12 1040) 12 2) 12 4200) 12 4200) 12 4200) 12 4200) 12 4200) 12 4200) 12 4200) 12 16) 12 4200) 12 4200) (gN (gN (gN (gN (gN (gN (gN (gN (gN (gN (gN (gN (gN (gN (gN (gN (gN (gN (gN (gN (gN (gN (gN (gN (gN (gN (gN (gN (gN (gN (gN (gN (gN (gN (gN (gN (gN (gN (gN G 12 2000) 12 4000) 12 2) 12 16) 12 16) 12 16) 12 16) 12 16) 12 16) 12 16) 12 192) 12 192) 12 192) 12 192) 12 128) 12 128) 12 128) 12 128) 12 96) 12 96) 12 96) 12 96) 12 96) 12 2) 12 1040) 12 1040) 12 1040) 12 1040) 12 1040) 12 2) 12 4200) 12 4200) 12 4200) 12 4200) 12 4200) 12 4200) 12 4200) 12 16) 12 4200).1 12 := Ty_new C0.2.2.2.2.2.2.2.2.2.1
  refine st_some ?_
  refine pt_11_51 C h rfl rfl (fun b hb => by cases hb; exact tn_40) (Ty_le (Gle_up Gle_rf) (Ty_le (Gle_up Gle_rf) (Ty_le (Gle_up Gle_rf) (Ty_le (Gle_up Gle_rf) (Ty_le (Gle_up Gle_rf) (Ty_le (Gle_up Gle_rf) (Ty_le (Gle_up Gle_rf) (Ty_le (Gle_up Gle_rf) (Ty_le (Gle_up Gle_rf) (Ty_le (Gle_up Gle_rf) (Ty_le (Gle_up Gle_rf) (Ty_le (Gle_up Gle_rf) (Ty_le (Gle_up Gle_rf) (Ty_le (Gle_up Gle_rf) (Ty_le (Gle_up Gle_rf) (Ty_le (Gle_up Gle_rf) (Ty_le (Gle_up Gle_rf) (Ty_le (Gle_up Gle_rf) (Ty_le (Gle_up Gle_rf) (Ty_le (Gle_up Gle_rf) (Ty_le (Gle_up Gle_rf) (Ty_le (Gle_up Gle_rf) (Ty_le (Gle_up Gle_rf) (Ty_le (Gle_up Gle_rf) (Ty_le (Gle_up Gle_rf) (Ty_le (Gle_up Gle_rf) (Ty_le (Gle_up Gle_rf) (Ty_le (Gle_up Gle_rf) (Ty_le (Gle_up Gle_rf) (Ty_le (Gle_up Gle_rf) (Ty_le (Gle_up Gle_rf) (Ty_le (Gle_up Gle_rf) (Ty_le (Gle_up Gle_rf) (Ty_le (Gle_up Gle_rf) (Ty_le (Gle_up Gle_rf) (Ty_le (Gle_up Gle_rf) (Ty_le (Gle_up Gle_rf) (Ty_le (Gle_up Gle_rf) (Ty_le (Gle_up Gle_rf) (Ty_le (Gle_up Gle_rf) tx0)))))))))))))))))))))))))))))))))))))))) fl_X11_127 dX11_init_342 (fun H locs h => ?_)
  refine lv_aload_n C.1 C.2.1 dX11_init_345 rfl (lv_at hl 0 rfl) ?_
  refine lv_sipush (v := 1100) C.1 C.2.1 dX11_init_346 (by decide) ?_
  refine h_newa C h 12 (by decide) (by decide) rfl ac_int 1100 (by decide) (by decide) (by decide) (by decide) (by decide) dX11_init_349 (fun H locs h => ?_)
  have C0 := C
  have C := Cx_le (Gle_up (κ := 12) (n := 1100) Gle_rf) C
  have tn_41 : Ty E (gN (gN (gN (gN (gN (gN (gN (gN (gN (gN (gN (gN (gN (gN (gN (gN (gN (gN (gN (gN (gN (gN (gN (gN (gN (gN (gN (gN (gN (gN (gN (gN (gN (gN (gN (gN (gN (gN (gN (gN (gN G 12 2000) 12 4000) 12 2) 12 16) 12 16) 12 16) 12 16) 12 16) 12 16) 12 16) 12 192) 12 192) 12 192) 12 192) 12 128) 12 128) 12 128) 12 128) 12 96) 12 96) 12 96) 12 96) 12 96) 12 2) 12 1040) 12 1040) 12 1040) 12 1040) 12 1040) 12 2) 12 4200) 12 4200) 12 4200) 12 4200) 12 4200) 12 4200) 12 4200) 12 16) 12 4200) 12 4200) 12 1100) (gN (gN (gN (gN (gN (gN (gN (gN (gN (gN (gN (gN (gN (gN (gN (gN (gN (gN (gN (gN (gN (gN (gN (gN (gN (gN (gN (gN (gN (gN (gN (gN (gN (gN (gN (gN (gN (gN (gN (gN G 12 2000) 12 4000) 12 2) 12 16) 12 16) 12 16) 12 16) 12 16) 12 16) 12 16) 12 192) 12 192) 12 192) 12 192) 12 128) 12 128) 12 128) 12 128) 12 96) 12 96) 12 96) 12 96) 12 96) 12 2) 12 1040) 12 1040) 12 1040) 12 1040) 12 1040) 12 2) 12 4200) 12 4200) 12 4200) 12 4200) 12 4200) 12 4200) 12 4200) 12 16) 12 4200) 12 4200).1 12 := Ty_new C0.2.2.2.2.2.2.2.2.2.1
  refine st_some ?_
  refine pt_11_52 C h rfl rfl (fun b hb => by cases hb; exact tn_41) (Ty_le (Gle_up Gle_rf) (Ty_le (Gle_up Gle_rf) (Ty_le (Gle_up Gle_rf) (Ty_le (Gle_up Gle_rf) (Ty_le (Gle_up Gle_rf) (Ty_le (Gle_up Gle_rf) (Ty_le (Gle_up Gle_rf) (Ty_le (Gle_up Gle_rf) (Ty_le (Gle_up Gle_rf) (Ty_le (Gle_up Gle_rf) (Ty_le (Gle_up Gle_rf) (Ty_le (Gle_up Gle_rf) (Ty_le (Gle_up Gle_rf) (Ty_le (Gle_up Gle_rf) (Ty_le (Gle_up Gle_rf) (Ty_le (Gle_up Gle_rf) (Ty_le (Gle_up Gle_rf) (Ty_le (Gle_up Gle_rf) (Ty_le (Gle_up Gle_rf) (Ty_le (Gle_up Gle_rf) (Ty_le (Gle_up Gle_rf) (Ty_le (Gle_up Gle_rf) (Ty_le (Gle_up Gle_rf) (Ty_le (Gle_up Gle_rf) (Ty_le (Gle_up Gle_rf) (Ty_le (Gle_up Gle_rf) (Ty_le (Gle_up Gle_rf) (Ty_le (Gle_up Gle_rf) (Ty_le (Gle_up Gle_rf) (Ty_le (Gle_up Gle_rf) (Ty_le (Gle_up Gle_rf) (Ty_le (Gle_up Gle_rf) (Ty_le (Gle_up Gle_rf) (Ty_le (Gle_up Gle_rf) (Ty_le (Gle_up Gle_rf) (Ty_le (Gle_up Gle_rf) (Ty_le (Gle_up Gle_rf) (Ty_le (Gle_up Gle_rf) (Ty_le (Gle_up Gle_rf) (Ty_le (Gle_up Gle_rf) (Ty_le (Gle_up Gle_rf) tx0))))))))))))))))))))))))))))))))))))))))) fl_X11_130 dX11_init_351 (fun H locs h => ?_)
  refine lv_aload_n C.1 C.2.1 dX11_init_354 rfl (lv_at hl 0 rfl) ?_
  refine lv_ldc C.1 C.2.1 C.2.2.2.1 (C.2.2.2.2.1 _ co_X11_133) dX11_init_355 ?_
  refine pt_11_55 C h (Ty_le (Gle_up Gle_rf) (Ty_le (Gle_up Gle_rf) (Ty_le (Gle_up Gle_rf) (Ty_le (Gle_up Gle_rf) (Ty_le (Gle_up Gle_rf) (Ty_le (Gle_up Gle_rf) (Ty_le (Gle_up Gle_rf) (Ty_le (Gle_up Gle_rf) (Ty_le (Gle_up Gle_rf) (Ty_le (Gle_up Gle_rf) (Ty_le (Gle_up Gle_rf) (Ty_le (Gle_up Gle_rf) (Ty_le (Gle_up Gle_rf) (Ty_le (Gle_up Gle_rf) (Ty_le (Gle_up Gle_rf) (Ty_le (Gle_up Gle_rf) (Ty_le (Gle_up Gle_rf) (Ty_le (Gle_up Gle_rf) (Ty_le (Gle_up Gle_rf) (Ty_le (Gle_up Gle_rf) (Ty_le (Gle_up Gle_rf) (Ty_le (Gle_up Gle_rf) (Ty_le (Gle_up Gle_rf) (Ty_le (Gle_up Gle_rf) (Ty_le (Gle_up Gle_rf) (Ty_le (Gle_up Gle_rf) (Ty_le (Gle_up Gle_rf) (Ty_le (Gle_up Gle_rf) (Ty_le (Gle_up Gle_rf) (Ty_le (Gle_up Gle_rf) (Ty_le (Gle_up Gle_rf) (Ty_le (Gle_up Gle_rf) (Ty_le (Gle_up Gle_rf) (Ty_le (Gle_up Gle_rf) (Ty_le (Gle_up Gle_rf) (Ty_le (Gle_up Gle_rf) (Ty_le (Gle_up Gle_rf) (Ty_le (Gle_up Gle_rf) (Ty_le (Gle_up Gle_rf) (Ty_le (Gle_up Gle_rf) (Ty_le (Gle_up Gle_rf) tx0))))))))))))))))))))))))))))))))))))))))) fl_X11_134 dX11_init_357 (fun H locs h => ?_)
  refine lv_aload_n C.1 C.2.1 dX11_init_360 rfl (lv_at hl 0 rfl) ?_
  refine lv_bipush (v := 8) C.1 C.2.1 dX11_init_361 (by decide) ?_
  refine h_newa C h 12 (by decide) (by decide) rfl ac_int 8 (by decide) (by decide) (by decide) (by decide) (by decide) dX11_init_363 (fun H locs h => ?_)
  have C0 := C
  have C := Cx_le (Gle_up (κ := 12) (n := 8) Gle_rf) C
  have tn_42 : Ty E (gN (gN (gN (gN (gN (gN (gN (gN (gN (gN (gN (gN (gN (gN (gN (gN (gN (gN (gN (gN (gN (gN (gN (gN (gN (gN (gN (gN (gN (gN (gN (gN (gN (gN (gN (gN (gN (gN (gN (gN (gN (gN G 12 2000) 12 4000) 12 2) 12 16) 12 16) 12 16) 12 16) 12 16) 12 16) 12 16) 12 192) 12 192) 12 192) 12 192) 12 128) 12 128) 12 128) 12 128) 12 96) 12 96) 12 96) 12 96) 12 96) 12 2) 12 1040) 12 1040) 12 1040) 12 1040) 12 1040) 12 2) 12 4200) 12 4200) 12 4200) 12 4200) 12 4200) 12 4200) 12 4200) 12 16) 12 4200) 12 4200) 12 1100) 12 8) (gN (gN (gN (gN (gN (gN (gN (gN (gN (gN (gN (gN (gN (gN (gN (gN (gN (gN (gN (gN (gN (gN (gN (gN (gN (gN (gN (gN (gN (gN (gN (gN (gN (gN (gN (gN (gN (gN (gN (gN (gN G 12 2000) 12 4000) 12 2) 12 16) 12 16) 12 16) 12 16) 12 16) 12 16) 12 16) 12 192) 12 192) 12 192) 12 192) 12 128) 12 128) 12 128) 12 128) 12 96) 12 96) 12 96) 12 96) 12 96) 12 2) 12 1040) 12 1040) 12 1040) 12 1040) 12 1040) 12 2) 12 4200) 12 4200) 12 4200) 12 4200) 12 4200) 12 4200) 12 4200) 12 16) 12 4200) 12 4200) 12 1100).1 12 := Ty_new C0.2.2.2.2.2.2.2.2.2.1
  refine st_some ?_
  refine pt_11_56 C h rfl rfl (fun b hb => by cases hb; exact tn_42) (Ty_le (Gle_up Gle_rf) (Ty_le (Gle_up Gle_rf) (Ty_le (Gle_up Gle_rf) (Ty_le (Gle_up Gle_rf) (Ty_le (Gle_up Gle_rf) (Ty_le (Gle_up Gle_rf) (Ty_le (Gle_up Gle_rf) (Ty_le (Gle_up Gle_rf) (Ty_le (Gle_up Gle_rf) (Ty_le (Gle_up Gle_rf) (Ty_le (Gle_up Gle_rf) (Ty_le (Gle_up Gle_rf) (Ty_le (Gle_up Gle_rf) (Ty_le (Gle_up Gle_rf) (Ty_le (Gle_up Gle_rf) (Ty_le (Gle_up Gle_rf) (Ty_le (Gle_up Gle_rf) (Ty_le (Gle_up Gle_rf) (Ty_le (Gle_up Gle_rf) (Ty_le (Gle_up Gle_rf) (Ty_le (Gle_up Gle_rf) (Ty_le (Gle_up Gle_rf) (Ty_le (Gle_up Gle_rf) (Ty_le (Gle_up Gle_rf) (Ty_le (Gle_up Gle_rf) (Ty_le (Gle_up Gle_rf) (Ty_le (Gle_up Gle_rf) (Ty_le (Gle_up Gle_rf) (Ty_le (Gle_up Gle_rf) (Ty_le (Gle_up Gle_rf) (Ty_le (Gle_up Gle_rf) (Ty_le (Gle_up Gle_rf) (Ty_le (Gle_up Gle_rf) (Ty_le (Gle_up Gle_rf) (Ty_le (Gle_up Gle_rf) (Ty_le (Gle_up Gle_rf) (Ty_le (Gle_up Gle_rf) (Ty_le (Gle_up Gle_rf) (Ty_le (Gle_up Gle_rf) (Ty_le (Gle_up Gle_rf) (Ty_le (Gle_up Gle_rf) (Ty_le (Gle_up Gle_rf) tx0)))))))))))))))))))))))))))))))))))))))))) fl_X11_138 dX11_init_365 (fun H locs h => ?_)
  refine lv_aload_n C.1 C.2.1 dX11_init_368 rfl (lv_at hl 0 rfl) ?_
  refine lv_bipush (v := 96) C.1 C.2.1 dX11_init_369 (by decide) ?_
  refine h_newa C h 12 (by decide) (by decide) rfl ac_int 96 (by decide) (by decide) (by decide) (by decide) (by decide) dX11_init_371 (fun H locs h => ?_)
  have C0 := C
  have C := Cx_le (Gle_up (κ := 12) (n := 96) Gle_rf) C
  have tn_43 : Ty E (gN (gN (gN (gN (gN (gN (gN (gN (gN (gN (gN (gN (gN (gN (gN (gN (gN (gN (gN (gN (gN (gN (gN (gN (gN (gN (gN (gN (gN (gN (gN (gN (gN (gN (gN (gN (gN (gN (gN (gN (gN (gN (gN G 12 2000) 12 4000) 12 2) 12 16) 12 16) 12 16) 12 16) 12 16) 12 16) 12 16) 12 192) 12 192) 12 192) 12 192) 12 128) 12 128) 12 128) 12 128) 12 96) 12 96) 12 96) 12 96) 12 96) 12 2) 12 1040) 12 1040) 12 1040) 12 1040) 12 1040) 12 2) 12 4200) 12 4200) 12 4200) 12 4200) 12 4200) 12 4200) 12 4200) 12 16) 12 4200) 12 4200) 12 1100) 12 8) 12 96) (gN (gN (gN (gN (gN (gN (gN (gN (gN (gN (gN (gN (gN (gN (gN (gN (gN (gN (gN (gN (gN (gN (gN (gN (gN (gN (gN (gN (gN (gN (gN (gN (gN (gN (gN (gN (gN (gN (gN (gN (gN (gN G 12 2000) 12 4000) 12 2) 12 16) 12 16) 12 16) 12 16) 12 16) 12 16) 12 16) 12 192) 12 192) 12 192) 12 192) 12 128) 12 128) 12 128) 12 128) 12 96) 12 96) 12 96) 12 96) 12 96) 12 2) 12 1040) 12 1040) 12 1040) 12 1040) 12 1040) 12 2) 12 4200) 12 4200) 12 4200) 12 4200) 12 4200) 12 4200) 12 4200) 12 16) 12 4200) 12 4200) 12 1100) 12 8).1 12 := Ty_new C0.2.2.2.2.2.2.2.2.2.1
  refine st_some ?_
  refine pt_11_57 C h rfl rfl (fun b hb => by cases hb; exact tn_43) (Ty_le (Gle_up Gle_rf) (Ty_le (Gle_up Gle_rf) (Ty_le (Gle_up Gle_rf) (Ty_le (Gle_up Gle_rf) (Ty_le (Gle_up Gle_rf) (Ty_le (Gle_up Gle_rf) (Ty_le (Gle_up Gle_rf) (Ty_le (Gle_up Gle_rf) (Ty_le (Gle_up Gle_rf) (Ty_le (Gle_up Gle_rf) (Ty_le (Gle_up Gle_rf) (Ty_le (Gle_up Gle_rf) (Ty_le (Gle_up Gle_rf) (Ty_le (Gle_up Gle_rf) (Ty_le (Gle_up Gle_rf) (Ty_le (Gle_up Gle_rf) (Ty_le (Gle_up Gle_rf) (Ty_le (Gle_up Gle_rf) (Ty_le (Gle_up Gle_rf) (Ty_le (Gle_up Gle_rf) (Ty_le (Gle_up Gle_rf) (Ty_le (Gle_up Gle_rf) (Ty_le (Gle_up Gle_rf) (Ty_le (Gle_up Gle_rf) (Ty_le (Gle_up Gle_rf) (Ty_le (Gle_up Gle_rf) (Ty_le (Gle_up Gle_rf) (Ty_le (Gle_up Gle_rf) (Ty_le (Gle_up Gle_rf) (Ty_le (Gle_up Gle_rf) (Ty_le (Gle_up Gle_rf) (Ty_le (Gle_up Gle_rf) (Ty_le (Gle_up Gle_rf) (Ty_le (Gle_up Gle_rf) (Ty_le (Gle_up Gle_rf) (Ty_le (Gle_up Gle_rf) (Ty_le (Gle_up Gle_rf) (Ty_le (Gle_up Gle_rf) (Ty_le (Gle_up Gle_rf) (Ty_le (Gle_up Gle_rf) (Ty_le (Gle_up Gle_rf) (Ty_le (Gle_up Gle_rf) (Ty_le (Gle_up Gle_rf) tx0))))))))))))))))))))))))))))))))))))))))))) fl_X11_141 dX11_init_373 (fun H locs h => ?_)
  refine lv_aload_n C.1 C.2.1 dX11_init_376 rfl (lv_at hl 0 rfl) ?_
  refine lv_bipush (v := 48) C.1 C.2.1 dX11_init_377 (by decide) ?_
  refine h_newa C h 12 (by decide) (by decide) rfl ac_int 48 (by decide) (by decide) (by decide) (by decide) (by decide) dX11_init_379 (fun H locs h => ?_)
  have C0 := C
  have C := Cx_le (Gle_up (κ := 12) (n := 48) Gle_rf) C
  have tn_44 : Ty E (gN (gN (gN (gN (gN (gN (gN (gN (gN (gN (gN (gN (gN (gN (gN (gN (gN (gN (gN (gN (gN (gN (gN (gN (gN (gN (gN (gN (gN (gN (gN (gN (gN (gN (gN (gN (gN (gN (gN (gN (gN (gN (gN (gN G 12 2000) 12 4000) 12 2) 12 16) 12 16) 12 16) 12 16) 12 16) 12 16) 12 16) 12 192) 12 192) 12 192) 12 192) 12 128) 12 128) 12 128) 12 128) 12 96) 12 96) 12 96) 12 96) 12 96) 12 2) 12 1040) 12 1040) 12 1040) 12 1040) 12 1040) 12 2) 12 4200) 12 4200) 12 4200) 12 4200) 12 4200) 12 4200) 12 4200) 12 16) 12 4200) 12 4200) 12 1100) 12 8) 12 96) 12 48) (gN (gN (gN (gN (gN (gN (gN (gN (gN (gN (gN (gN (gN (gN (gN (gN (gN (gN (gN (gN (gN (gN (gN (gN (gN (gN (gN (gN (gN (gN (gN (gN (gN (gN (gN (gN (gN (gN (gN (gN (gN (gN (gN G 12 2000) 12 4000) 12 2) 12 16) 12 16) 12 16) 12 16) 12 16) 12 16) 12 16) 12 192) 12 192) 12 192) 12 192) 12 128) 12 128) 12 128) 12 128) 12 96) 12 96) 12 96) 12 96) 12 96) 12 2) 12 1040) 12 1040) 12 1040) 12 1040) 12 1040) 12 2) 12 4200) 12 4200) 12 4200) 12 4200) 12 4200) 12 4200) 12 4200) 12 16) 12 4200) 12 4200) 12 1100) 12 8) 12 96).1 12 := Ty_new C0.2.2.2.2.2.2.2.2.2.1
  refine st_some ?_
  refine pt_11_58 C h rfl rfl (fun b hb => by cases hb; exact tn_44) (Ty_le (Gle_up Gle_rf) (Ty_le (Gle_up Gle_rf) (Ty_le (Gle_up Gle_rf) (Ty_le (Gle_up Gle_rf) (Ty_le (Gle_up Gle_rf) (Ty_le (Gle_up Gle_rf) (Ty_le (Gle_up Gle_rf) (Ty_le (Gle_up Gle_rf) (Ty_le (Gle_up Gle_rf) (Ty_le (Gle_up Gle_rf) (Ty_le (Gle_up Gle_rf) (Ty_le (Gle_up Gle_rf) (Ty_le (Gle_up Gle_rf) (Ty_le (Gle_up Gle_rf) (Ty_le (Gle_up Gle_rf) (Ty_le (Gle_up Gle_rf) (Ty_le (Gle_up Gle_rf) (Ty_le (Gle_up Gle_rf) (Ty_le (Gle_up Gle_rf) (Ty_le (Gle_up Gle_rf) (Ty_le (Gle_up Gle_rf) (Ty_le (Gle_up Gle_rf) (Ty_le (Gle_up Gle_rf) (Ty_le (Gle_up Gle_rf) (Ty_le (Gle_up Gle_rf) (Ty_le (Gle_up Gle_rf) (Ty_le (Gle_up Gle_rf) (Ty_le (Gle_up Gle_rf) (Ty_le (Gle_up Gle_rf) (Ty_le (Gle_up Gle_rf) (Ty_le (Gle_up Gle_rf) (Ty_le (Gle_up Gle_rf) (Ty_le (Gle_up Gle_rf) (Ty_le (Gle_up Gle_rf) (Ty_le (Gle_up Gle_rf) (Ty_le (Gle_up Gle_rf) (Ty_le (Gle_up Gle_rf) (Ty_le (Gle_up Gle_rf) (Ty_le (Gle_up Gle_rf) (Ty_le (Gle_up Gle_rf) (Ty_le (Gle_up Gle_rf) (Ty_le (Gle_up Gle_rf) (Ty_le (Gle_up Gle_rf) (Ty_le (Gle_up Gle_rf) tx0)))))))))))))))))))))))))))))))))))))))))))) fl_X11_144 dX11_init_381 (fun H locs h => ?_)
  refine lv_aload_n C.1 C.2.1 dX11_init_384 rfl (lv_at hl 0 rfl) ?_
  refine lv_bipush (v := 8) C.1 C.2.1 dX11_init_385 (by decide) ?_
  refine h_newa C h 12 (by decide) (by decide) rfl ac_int 8 (by decide) (by decide) (by decide) (by decide) (by decide) dX11_init_387 (fun H locs h => ?_)
  have C0 := C
  have C := Cx_le (Gle_up (κ := 12) (n := 8) Gle_rf) C
  have tn_45 : Ty E (gN (gN (gN (gN (gN (gN (gN (gN (gN (gN (gN (gN (gN (gN (gN (gN (gN (gN (gN (gN (gN (gN (gN (gN (gN (gN (gN (gN (gN (gN (gN (gN (gN (gN (gN (gN (gN (gN (gN (gN (gN (gN (gN (gN (gN G 12 2000) 12 4000) 12 2) 12 16) 12 16) 12 16) 12 16) 12 16) 12 16) 12 16) 12 192) 12 192) 12 192) 12 192) 12 128) 12 128) 12 128) 12 128) 12 96) 12 96) 12 96) 12 96) 12 96) 12 2) 12 1040) 12 1040) 12 1040) 12 1040) 12 1040) 12 2) 12 4200) 12 4200) 12 4200) 12 4200) 12 4200) 12 4200) 12 4200) 12 16) 12 4200) 12 4200) 12 1100) 12 8) 12 96) 12 48) 12 8) (gN (gN (gN (gN (gN (gN (gN (gN (gN (gN (gN (gN (gN (gN (gN (gN (gN (gN (gN (gN (gN (gN (gN (gN (gN (gN (gN (gN (gN (gN (gN (gN (gN (gN (gN (gN (gN (gN (gN (gN (gN (gN (gN (gN G 12 2000) 12 4000) 12 2) 12 16) 12 16) 12 16) 12 16) 12 16) 12 16) 12 16) 12 192) 12 192) 12 192) 12 192) 12 128) 12 128) 12 128) 12 128) 12 96) 12 96) 12 96) 12 96) 12 96) 12 2) 12 1040) 12 1040) 12 1040) 12 1040) 12 1040) 12 2) 12 4200) 12 4200) 12 4200) 12 4200) 12 4200) 12 4200) 12 4200) 12 16) 12 4200) 12 4200) 12 1100) 12 8) 12 96) 12 48).1 12 := Ty_new C0.2.2.2.2.2.2.2.2.2.1
  refine st_some ?_
  refine pt_11_59 C h rfl rfl (fun b hb => by cases hb; exact tn_45) (Ty_le (Gle_up Gle_rf) (Ty_le (Gle_up Gle_rf) (Ty_le (Gle_up Gle_rf) (Ty_le (Gle_up Gle_rf) (Ty_le (Gle_up Gle_rf) (Ty_le (Gle_up Gle_rf) (Ty_le (Gle_up Gle_rf) (Ty_le (Gle_up Gle_rf) (Ty_le (Gle_up Gle_rf) (Ty_le (Gle_up Gle_rf) (Ty_le (Gle_up Gle_rf) (Ty_le (Gle_up Gle_rf) (Ty_le (Gle_up Gle_rf) (Ty_le (Gle_up Gle_rf) (Ty_le (Gle_up Gle_rf) (Ty_le (Gle_up Gle_rf) (Ty_le (Gle_up Gle_rf) (Ty_le (Gle_up Gle_rf) (Ty_le (Gle_up Gle_rf) (Ty_le (Gle_up Gle_rf) (Ty_le (Gle_up Gle_rf) (Ty_le (Gle_up Gle_rf) (Ty_le (Gle_up Gle_rf) (Ty_le (Gle_up Gle_rf) (Ty_le (Gle_up Gle_rf) (Ty_le (Gle_up Gle_rf) (Ty_le (Gle_up Gle_rf) (Ty_le (Gle_up Gle_rf) (Ty_le (Gle_up Gle_rf) (Ty_le (Gle_up Gle_rf) (Ty_le (Gle_up Gle_rf) (Ty_le (Gle_up Gle_rf) (Ty_le (Gle_up Gle_rf) (Ty_le (Gle_up Gle_rf) (Ty_le (Gle_up Gle_rf) (Ty_le (Gle_up Gle_rf) (Ty_le (Gle_up Gle_rf) (Ty_le (Gle_up Gle_rf) (Ty_le (Gle_up Gle_rf) (Ty_le (Gle_up Gle_rf) (Ty_le (Gle_up Gle_rf) (Ty_le (Gle_up Gle_rf) (Ty_le (Gle_up Gle_rf) (Ty_le (Gle_up Gle_rf) (Ty_le (Gle_up Gle_rf) tx0))))))))))))))))))))))))))))))))))))))))))))) fl_X11_147 dX11_init_389 (fun H locs h => ?_)
  refine lv_aload_n C.1 C.2.1 dX11_init_392 rfl (lv_at hl 0 rfl) ?_
  refine lv_sipush (v := 200) C.1 C.2.1 dX11_init_393 (by decide) ?_
  refine h_newa C h 12 (by decide) (by decide) rfl ac_int 200 (by decide) (by decide) (by decide) (by decide) (by decide) dX11_init_396 (fun H locs h => ?_)
  have C0 := C
  have C := Cx_le (Gle_up (κ := 12) (n := 200) Gle_rf) C
  have tn_46 : Ty E (gN (gN (gN (gN (gN (gN (gN (gN (gN (gN (gN (gN (gN (gN (gN (gN (gN (gN (gN (gN (gN (gN (gN (gN (gN (gN (gN (gN (gN (gN (gN (gN (gN (gN (gN (gN (gN (gN (gN (gN (gN (gN (gN (gN (gN (gN G 12 2000) 12 4000) 12 2) 12 16) 12 16) 12 16) 12 16) 12 16) 12 16) 12 16) 12 192) 12 192) 12 192) 12 192) 12 128) 12 128) 12 128) 12 128) 12 96) 12 96) 12 96) 12 96) 12 96) 12 2) 12 1040) 12 1040) 12 1040) 12 1040) 12 1040) 12 2) 12 4200) 12 4200) 12 4200) 12 4200) 12 4200) 12 4200) 12 4200) 12 16) 12 4200) 12 4200) 12 1100) 12 8) 12 96) 12 48) 12 8) 12 200) (gN (gN (gN (gN (gN (gN (gN (gN (gN (gN (gN (gN (gN (gN (gN (gN (gN (gN (gN (gN (gN (gN (gN (gN (gN (gN (gN (gN (gN (gN (gN (gN (gN (gN (gN (gN (gN (gN (gN (gN (gN (gN (gN (gN (gN G 12 2000) 12 4000) 12 2) 12 16) 12 16) 12 16) 12 16) 12 16) 12 16) 12 16) 12 192) 12 192) 12 192) 12 192) 12 128) 12 128) 12 128) 12 128) 12 96) 12 96) 12 96) 12 96) 12 96) 12 2) 12 1040) 12 1040) 12 1040) 12 1040) 12 1040) 12 2) 12 4200) 12 4200) 12 4200) 12 4200) 12 4200) 12 4200) 12 4200) 12 16) 12 4200) 12 4200) 12 1100) 12 8) 12 96) 12 48) 12 8).1 12 := Ty_new C0.2.2.2.2.2.2.2.2.2.1
  refine st_some ?_
  refine pt_11_60 C h rfl rfl (fun b hb => by cases hb; exact tn_46) (Ty_le (Gle_up Gle_rf) (Ty_le (Gle_up Gle_rf) (Ty_le (Gle_up Gle_rf) (Ty_le (Gle_up Gle_rf) (Ty_le (Gle_up Gle_rf) (Ty_le (Gle_up Gle_rf) (Ty_le (Gle_up Gle_rf) (Ty_le (Gle_up Gle_rf) (Ty_le (Gle_up Gle_rf) (Ty_le (Gle_up Gle_rf) (Ty_le (Gle_up Gle_rf) (Ty_le (Gle_up Gle_rf) (Ty_le (Gle_up Gle_rf) (Ty_le (Gle_up Gle_rf) (Ty_le (Gle_up Gle_rf) (Ty_le (Gle_up Gle_rf) (Ty_le (Gle_up Gle_rf) (Ty_le (Gle_up Gle_rf) (Ty_le (Gle_up Gle_rf) (Ty_le (Gle_up Gle_rf) (Ty_le (Gle_up Gle_rf) (Ty_le (Gle_up Gle_rf) (Ty_le (Gle_up Gle_rf) (Ty_le (Gle_up Gle_rf) (Ty_le (Gle_up Gle_rf) (Ty_le (Gle_up Gle_rf) (Ty_le (Gle_up Gle_rf) (Ty_le (Gle_up Gle_rf) (Ty_le (Gle_up Gle_rf) (Ty_le (Gle_up Gle_rf) (Ty_le (Gle_up Gle_rf) (Ty_le (Gle_up Gle_rf) (Ty_le (Gle_up Gle_rf) (Ty_le (Gle_up Gle_rf) (Ty_le (Gle_up Gle_rf) (Ty_le (Gle_up Gle_rf) (Ty_le (Gle_up Gle_rf) (Ty_le (Gle_up Gle_rf) (Ty_le (Gle_up Gle_rf) (Ty_le (Gle_up Gle_rf) (Ty_le (Gle_up Gle_rf) (Ty_le (Gle_up Gle_rf) (Ty_le (Gle_up Gle_rf) (Ty_le (Gle_up Gle_rf) (Ty_le (Gle_up Gle_rf) (Ty_le (Gle_up Gle_rf) tx0)))))))))))))))))))))))))))))))))))))))))))))) fl_X11_150 dX11_init_398 (fun H locs h => ?_)
  refine lv_aload_n C.1 C.2.1 dX11_init_401 rfl (lv_at hl 0 rfl) ?_
  refine lv_bipush (v := 30) C.1 C.2.1 dX11_init_402 (by decide) ?_
  refine h_newa C h 12 (by decide) (by decide) rfl ac_int 30 (by decide) (by decide) (by decide) (by decide) (by decide) dX11_init_404 (fun H locs h => ?_)
  have C0 := C
  have C := Cx_le (Gle_up (κ := 12) (n := 30) Gle_rf) C
  have tn_47 : Ty E (gN (gN (gN (gN (gN (gN (gN (gN (gN (gN (gN (gN (gN (gN (gN (gN (gN (gN (gN (gN (gN (gN (gN (gN (gN (gN (gN (gN (gN (gN (gN (gN (gN (gN (gN (gN (gN (gN (gN (gN (gN (gN (gN (gN (gN (gN (gN G 12 2000) 12 4000) 12 2) 12 16) 12 16) 12 16) 12 16) 12 16) 12 16) 12 16) 12 192) 12 192) 12 192) 12 192) 12 128) 12 128) 12 128) 12 128) 12 96) 12 96) 12 96) 12 96) 12 96) 12 2) 12 1040) 12 1040) 12 1040) 12 1040) 12 1040) 12 2) 12 4200) 12 4200) 12 4200) 12 4200) 12 4200) 12 4200) 12 4200) 12 16) 12 4200) 12 4200) 12 1100) 12 8) 12 96) 12 48) 12 8) 12 200) 12 30) (gN (gN (gN (gN (gN (gN (gN (gN (gN (gN (gN (gN (gN (gN (gN (gN (gN (gN (gN (gN (gN (gN (gN (gN (gN (gN (gN (gN (gN (gN (gN (gN (gN (gN (gN (gN (gN (gN (gN (gN (gN (gN (gN (gN (gN (gN G 12 2000) 12 4000) 12 2) 12 16) 12 16) 12 16) 12 16) 12 16) 12 16) 12 16) 12 192) 12 192) 12 192) 12 192) 12 128) 12 128) 12 128) 12 128) 12 96) 12 96) 12 96) 12 96) 12 96) 12 2) 12 1040) 12 1040) 12 1040) 12 1040) 12 1040) 12 2) 12 4200) 12 4200) 12 4200) 12 4200) 12 4200) 12 4200) 12 4200) 12 16) 12 4200) 12 4200) 12 1100) 12 8) 12 96) 12 48) 12 8) 12 200).1 12 := Ty_new C0.2.2.2.2.2.2.2.2.2.1
  refine st_some ?_
  refine pt_11_65 C h rfl rfl (fun b hb => by cases hb; exact tn_47) (Ty_le (Gle_up Gle_rf) (Ty_le (Gle_up Gle_rf) (Ty_le (Gle_up Gle_rf) (Ty_le (Gle_up Gle_rf) (Ty_le (Gle_up Gle_rf) (Ty_le (Gle_up Gle_rf) (Ty_le (Gle_up Gle_rf) (Ty_le (Gle_up Gle_rf) (Ty_le (Gle_up Gle_rf) (Ty_le (Gle_up Gle_rf) (Ty_le (Gle_up Gle_rf) (Ty_le (Gle_up Gle_rf) (Ty_le (Gle_up Gle_rf) (Ty_le (Gle_up Gle_rf) (Ty_le (Gle_up Gle_rf) (Ty_le (Gle_up Gle_rf) (Ty_le (Gle_up Gle_rf) (Ty_le (Gle_up Gle_rf) (Ty_le (Gle_up Gle_rf) (Ty_le (Gle_up Gle_rf) (Ty_le (Gle_up Gle_rf) (Ty_le (Gle_up Gle_rf) (Ty_le (Gle_up Gle_rf) (Ty_le (Gle_up Gle_rf) (Ty_le (Gle_up Gle_rf) (Ty_le (Gle_up Gle_rf) (Ty_le (Gle_up Gle_rf) (Ty_le (Gle_up Gle_rf) (Ty_le (Gle_up Gle_rf) (Ty_le (Gle_up Gle_rf) (Ty_le (Gle_up Gle_rf) (Ty_le (Gle_up Gle_rf) (Ty_le (Gle_up Gle_rf) (Ty_le (Gle_up Gle_rf) (Ty_le (Gle_up Gle_rf) (Ty_le (Gle_up Gle_rf) (Ty_le (Gle_up Gle_rf) (Ty_le (Gle_up Gle_rf) (Ty_le (Gle_up Gle_rf) (Ty_le (Gle_up Gle_rf) (Ty_le (Gle_up Gle_rf) (Ty_le (Gle_up Gle_rf) (Ty_le (Gle_up Gle_rf) (Ty_le (Gle_up Gle_rf) (Ty_le (Gle_up Gle_rf) (Ty_le (Gle_up Gle_rf) (Ty_le (Gle_up Gle_rf) tx0))))))))))))))))))))))))))))))))))))))))))))))) fl_X11_153 dX11_init_406 (fun H locs h => ?_)
  refine lv_aload_n C.1 C.2.1 dX11_init_409 rfl (lv_at hl 0 rfl) ?_
  refine lv_bipush (v := 30) C.1 C.2.1 dX11_init_410 (by decide) ?_
  refine h_newa C h 12 (by decide) (by decide) rfl ac_int 30 (by decide) (by decide) (by decide) (by decide) (by decide) dX11_init_412 (fun H locs h => ?_)
  have C0 := C
  have C := Cx_le (Gle_up (κ := 12) (n := 30) Gle_rf) C
  have tn_48 : Ty E (gN (gN (gN (gN (gN (gN (gN (gN (gN (gN (gN (gN (gN (gN (gN (gN (gN (gN (gN (gN (gN (gN (gN (gN (gN (gN (gN (gN (gN (gN (gN (gN (gN (gN (gN (gN (gN (gN (gN (gN (gN (gN (gN (gN (gN (gN (gN (gN G 12 2000) 12 4000) 12 2) 12 16) 12 16) 12 16) 12 16) 12 16) 12 16) 12 16) 12 192) 12 192) 12 192) 12 192) 12 128) 12 128) 12 128) 12 128) 12 96) 12 96) 12 96) 12 96) 12 96) 12 2) 12 1040) 12 1040) 12 1040) 12 1040) 12 1040) 12 2) 12 4200) 12 4200) 12 4200) 12 4200) 12 4200) 12 4200) 12 4200) 12 16) 12 4200) 12 4200) 12 1100) 12 8) 12 96) 12 48) 12 8) 12 200) 12 30) 12 30) (gN (gN (gN (gN (gN (gN (gN (gN (gN (gN (gN (gN (gN (gN (gN (gN (gN (gN (gN (gN (gN (gN (gN (gN (gN (gN (gN (gN (gN (gN (gN (gN (gN (gN (gN (gN (gN (gN (gN (gN (gN (gN (gN (gN (gN (gN (gN G 12 2000) 12 4000) 12 2) 12 16) 12 16) 12 16) 12 16) 12 16) 12 16) 12 16) 12 192) 12 192) 12 192) 12 192) 12 128) 12 128) 12 128) 12 128) 12 96) 12 96) 12 96) 12 96) 12 96) 12 2) 12 1040) 12 1040) 12 1040) 12 1040) 12 1040) 12 2) 12 4200) 12 4200) 12 4200) 12 4200) 12 4200) 12 4200) 12 4200) 12 16) 12 4200) 12 4200) 12 1100) 12 8) 12 96) 12 48) 12 8) 12 200) 12 30).1 12 := Ty_new C0.2.2.2.2.2.2.2.2.2.1
  refine st_some ?_
  refine pt_11_66 C h rfl rfl (fun b hb => by cases hb; exact tn_48) (Ty_le (Gle_up Gle_rf) (Ty_le (Gle_up Gle_rf) (Ty_le (Gle_up Gle_rf) (Ty_le (Gle_up Gle_rf) (Ty_le (Gle_up Gle_rf) (Ty_le (Gle_up Gle_rf) (Ty_le (Gle_up Gle_rf) (Ty_le (Gle_up Gle_rf) (Ty_le (Gle_up Gle_rf) (Ty_le (Gle_up Gle_rf) (Ty_le (Gle_up Gle_rf) (Ty_le (Gle_up Gle_rf) (Ty_le (Gle_up Gle_rf) (Ty_le (Gle_up Gle_rf) (Ty_le (Gle_up Gle_rf) (Ty_le (Gle_up Gle_rf) (Ty_le (Gle_up Gle_rf) (Ty_le (Gle_up Gle_rf) (Ty_le (Gle_up Gle_rf) (Ty_le (Gle_up Gle_rf) (Ty_le (Gle_up Gle_rf) (Ty_le (Gle_up Gle_rf) (Ty_le (Gle_up Gle_rf) (Ty_le (Gle_up Gle_rf) (Ty_le (Gle_up Gle_rf) (Ty_le (Gle_up Gle_rf) (Ty_le (Gle_up Gle_rf) (Ty_le (Gle_up Gle_rf) (Ty_le (Gle_up Gle_rf) (Ty_le (Gle_up Gle_rf) (Ty_le (Gle_up Gle_rf) (Ty_le (Gle_up Gle_rf) (Ty_le (Gle_up Gle_rf) (Ty_le (Gle_up Gle_rf) (Ty_le (Gle_up Gle_rf) (Ty_le (Gle_up Gle_rf) (Ty_le (Gle_up Gle_rf) (Ty_le (Gle_up Gle_rf) (Ty_le (Gle_up Gle_rf) (Ty_le (Gle_up Gle_rf) (Ty_le (Gle_up Gle_rf) (Ty_le (Gle_up Gle_rf) (Ty_le (Gle_up Gle_rf) (Ty_le (Gle_up Gle_rf) (Ty_le (Gle_up Gle_rf) (Ty_le (Gle_up Gle_rf) (Ty_le (Gle_up Gle_rf) (Ty_le (Gle_up Gle_rf) tx0)))))))))))))))))))))))))))))))))))))))))))))))) fl_X11_156 dX11_init_414 (fun H locs h => ?_)
  refine lv_aload_n C.1 C.2.1 dX11_init_417 rfl (lv_at hl 0 rfl) ?_
  refine lv_bipush (v := 30) C.1 C.2.1 dX11_init_418 (by decide) ?_
  refine h_newa C h 12 (by decide) (by decide) rfl ac_int 30 (by decide) (by decide) (by decide) (by decide) (by decide) dX11_init_420 (fun H locs h => ?_)
  have C0 := C
  have C := Cx_le (Gle_up (κ := 12) (n := 30) Gle_rf) C
  have tn_49 : Ty E (gN (gN (gN (gN (gN (gN (gN (gN (gN (gN (gN (gN (gN (gN (gN (gN (gN (gN (gN (gN (gN (gN (gN (gN (gN (gN (gN (gN (gN (gN (gN (gN (gN (gN (gN (gN (gN (gN (gN (gN (gN (gN (gN (gN (gN (gN (gN (gN (gN G 12 2000) 12 4000) 12 2) 12 16) 12 16) 12 16) 12 16) 12 16) 12 16) 12 16) 12 192) 12 192) 12 192) 12 192) 12 128) 12 128) 12 128) 12 128) 12 96) 12 96) 12 96) 12 96) 12 96) 12 2) 12 1040) 12 1040) 12 1040) 12 1040) 12 1040) 12 2) 12 4200) 12 4200) 12 4200) 12 4200) 12 4200) 12 4200) 12 4200) 12 16) 12 4200) 12 4200) 12 1100) 12 8) 12 96) 12 48) 12 8) 12 200) 12 30) 12 30) 12 30) (gN (gN (gN (gN (gN (gN (gN (gN (gN (gN (gN (gN (gN (gN (gN (gN (gN (gN (gN (gN (gN (gN (gN (gN (gN (gN (gN (gN (gN (gN (gN (gN (gN (gN (gN (gN (gN (gN (gN (gN (gN (gN (gN (gN (gN (gN (gN (gN G 12 2000) 12 4000) 12 2) 12 16) 12 16) 12 16) 12 16) 12 16) 12 16) 12 16) 12 192) 12 192) 12 192) 12 192) 12 128) 12 128) 12 128) 12 128) 12 96) 12 96) 12 96) 12 96) 12 96) 12 2) 12 1040) 12 1040) 12 1040) 12 1040) 12 1040) 12 2) 12 4200) 12 4200) 12 4200) 12 4200) 12 4200) 12 4200) 12 4200) 12 16) 12 4200) 12 4200) 12 1100) 12 8) 12 96) 12 48) 12 8) 12 200) 12 30) 12 30).1 12 := Ty_new C0.2.2.2.2.2.2.2.2.2.1
  refine st_some ?_
  refine pt_11_67 C h rfl rfl (fun b hb => by cases hb; exact tn_49) (Ty_le (Gle_up Gle_rf) (Ty_le (Gle_up Gle_rf) (Ty_le (Gle_up Gle_rf) (Ty_le (Gle_up Gle_rf) (Ty_le (Gle_up Gle_rf) (Ty_le (Gle_up Gle_rf) (Ty_le (Gle_up Gle_rf) (Ty_le (Gle_up Gle_rf) (Ty_le (Gle_up Gle_rf) (Ty_le (Gle_up Gle_rf) (Ty_le (Gle_up Gle_rf) (Ty_le (Gle_up Gle_rf) (Ty_le (Gle_up Gle_rf) (Ty_le (Gle_up Gle_rf) (Ty_le (Gle_up Gle_rf) (Ty_le (Gle_up Gle_rf) (Ty_le (Gle_up Gle_rf) (Ty_le (Gle_up Gle_rf) (Ty_le (Gle_up Gle_rf) (Ty_le (Gle_up Gle_rf) (Ty_le (Gle_up Gle_rf) (Ty_le (Gle_up Gle_rf) (Ty_le (Gle_up Gle_rf) (Ty_le (Gle_up Gle_rf) (Ty_le (Gle_up Gle_rf) (Ty_le (Gle_up Gle_rf) (Ty_le (Gle_up Gle_rf) (Ty_le (Gle_up Gle_rf) (Ty_le (Gle_up Gle_rf) (Ty_le (Gle_up Gle_rf) (Ty_le (Gle_up Gle_rf) (Ty_le (Gle_up Gle_rf) (Ty_le (Gle_up Gle_rf) (Ty_le (Gle_up Gle_rf) (Ty_le (Gle_up Gle_rf) (Ty_le (Gle_up Gle_rf) (Ty_le (Gle_up Gle_rf) (Ty_le (Gle_up Gle_rf) (Ty_le (Gle_up Gle_rf) (Ty_le (Gle_up Gle_rf) (Ty_le (Gle_up Gle_rf) (Ty_le (Gle_up Gle_rf) (Ty_le (Gle_up Gle_rf) (Ty_le (Gle_up Gle_rf) (Ty_le (Gle_up Gle_rf) (Ty_le (Gle_up Gle_rf) (Ty_le (Gle_up Gle_rf) (Ty_le (Gle_up Gle_rf) (Ty_le (Gle_up Gle_rf) tx0))))))))))))))))))))))))))))))))))))))))))))))))) fl_X11_159 dX11_init_422 (fun H locs h => ?_)
  refine lv_aload_n C.1 C.2.1 dX11_init_425 rfl (lv_at hl 0 rfl) ?_
  refine lv_bipush (v := 30) C.1 C.2.1 dX11_init_426 (by decide) ?_
  refine h_newa C h 12 (by decide) (by decide) rfl ac_int 30 (by decide) (by decide) (by decide) (by decide) (by decide) dX11_init_428 (fun H locs h => ?_)
  have C0 := C
  have C := Cx_le (Gle_up (κ := 12) (n := 30) Gle_rf) C
  have tn_50 : Ty E (gN (gN (gN (gN (gN (gN (gN (gN (gN (gN (gN (gN (gN (gN (gN (gN (gN (gN (gN (gN (gN (gN (gN (gN (gN (gN (gN (gN (gN (gN (gN (gN (gN (gN (gN (gN (gN (gN (gN (gN (gN (gN (gN (gN (gN (gN (gN (gN (gN (gN G 12 2000) 12 4000) 12 2) 12 16) 12 16) 12 16) 12 16) 12 16) 12 16) 12 16) 12 192) 12 192) 12 192) 12 192) 12 128) 12 128) 12 128) 12 128) 12 96) 12 96) 12 96) 12 96) 12 96) 12 2) 12 1040) 12 1040) 12 1040) 12 1040) 12 1040) 12 2) 12 4200) 12 4200) 12 4200) 12 4200) 12 4200) 12 4200) 12 4200) 12 16) 12 4200) 12 4200) 12 1100) 12 8) 12 96) 12 48) 12 8) 12 200) 12 30) 12 30) 12 30) 12 30) (gN (gN (gN (gN (gN (gN (gN (gN (gN (gN (gN (gN (gN (gN (gN (gN (gN (gN (gN (gN (gN (gN (gN (gN (gN (gN (gN (gN (gN (gN (gN (gN (gN (gN (gN (gN (gN (gN (gN (gN (gN (gN (gN (gN (gN (gN (gN (gN (gN G 12 2000) 12 4000) 12 2) 12 16) 12 16) 12 16) 12 16) 12 16) 12 16) 12 16) 12 192) 12 192) 12 192) 12 192) 12 128) 12 128) 12 128) 12 128) 12 96) 12 96) 12 96) 12 96) 12 96) 12 2) 12 1040) 12 1040) 12 1040) 12 1040) 12 1040) 12 2) 12 4200) 12 4200) 12 4200) 12 4200) 12 4200) 12 4200) 12 4200) 12 16) 12 4200) 12 4200) 12 1100) 12 8) 12 96) 12 48) 12 8) 12 200) 12 30) 12 30) 12 30).1 12 := Ty_new C0.2.2.2.2.2.2.2.2.2.1
  refine st_some ?_
  refine pt_11_68 C h rfl rfl (fun b hb => by cases hb; exact tn_50) (Ty_le (Gle_up Gle_rf) (Ty_le (Gle_up Gle_rf) (Ty_le (Gle_up Gle_rf) (Ty_le (Gle_up Gle_rf) (Ty_le (Gle_up Gle_rf) (Ty_le (Gle_up Gle_rf) (Ty_le (Gle_up Gle_rf) (Ty_le (Gle_up Gle_rf) (Ty_le (Gle_up Gle_rf) (Ty_le (Gle_up Gle_rf) (Ty_le (Gle_up Gle_rf) (Ty_le (Gle_up Gle_rf) (Ty_le (Gle_up Gle_rf) (Ty_le (Gle_up Gle_rf) (Ty_le (Gle_up Gle_rf) (Ty_le (Gle_up Gle_rf) (Ty_le (Gle_up Gle_rf) (Ty_le (Gle_up Gle_rf) (Ty_le (Gle_up Gle_rf) (Ty_le (Gle_up Gle_rf) (Ty_le (Gle_up Gle_rf) (Ty_le (Gle_up Gle_rf) (Ty_le (Gle_up Gle_rf) (Ty_le (Gle_up Gle_rf) (Ty_le (Gle_up Gle_rf) (Ty_le (Gle_up Gle_rf) (Ty_le (Gle_up Gle_rf) (Ty_le (Gle_up Gle_rf) (Ty_le (Gle_up Gle_rf) (Ty_le (Gle_up Gle_rf) (Ty_le (Gle_up Gle_rf) (Ty_le (Gle_up Gle_rf) (Ty_le (Gle_up Gle_rf) (Ty_le (Gle_up Gle_rf) (Ty_le (Gle_up Gle_rf) (Ty_le (Gle_up Gle_rf) (Ty_le (Gle_up Gle_rf) (Ty_le (Gle_up Gle_rf) (Ty_le (Gle_up Gle_rf) (Ty_le (Gle_up Gle_rf) (Ty_le (Gle_up Gle_rf) (Ty_le (Gle_up Gle_rf) (Ty_le (Gle_up Gle_rf) (Ty_le (Gle_up Gle_rf) (Ty_le (Gle_up Gle_rf) (Ty_le (Gle_up Gle_rf) (Ty_le (Gle_up Gle_rf) (Ty_le (Gle_up Gle_rf) (Ty_le (Gle_up Gle_rf) (Ty_le (Gle_up Gle_rf) tx0)))))))))))))))))))))))))))))))))))))))))))))))))) fl_X11_162 dX11_init_430 (fun H locs h => ?_)
  refine lv_aload_n C.1 C.2.1 dX11_init_433 rfl (lv_at hl 0 rfl) ?_
  refine lv_sipush (v := 2100) C.1 C.2.1 dX11_init_434 (by decide) ?_
  refine h_newa C h 12 (by decide) (by decide) rfl ac_int 2100 (by decide) (by decide) (by decide) (by decide) (by decide) dX11_init_437 (fun H locs h => ?_)
  have C0 := C
  have C := Cx_le (Gle_up (κ := 12) (n := 2100) Gle_rf) C
  have tn_51 : Ty E (gN (gN (gN (gN (gN (gN (gN (gN (gN (gN (gN (gN (gN (gN (gN (gN (gN (gN (gN (gN (gN (gN (gN (gN (gN (gN (gN (gN (gN (gN (gN (gN (gN (gN (gN (gN (gN (gN (gN (gN (gN (gN (gN (gN (gN (gN (gN (gN (gN (gN (gN G 12 2000) 12 4000) 12 2) 12 16) 12 16) 12 16) 12 16) 12 16) 12 16) 12 16) 12 192) 12 192) 12 192) 12 192) 12 128) 12 128) 12 128) 12 128) 12 96) 12 96) 12 96) 12 96) 12 96) 12 2) 12 1040) 12 1040) 12 1040) 12 1040) 12 1040) 12 2) 12 4200) 12 4200) 12 4200) 12 4200) 12 4200) 12 4200) 12 4200) 12 16) 12 4200) 12 4200) 12 1100) 12 8) 12 96) 12 48) 12 8) 12 200) 12 30) 12 30) 12 30) 12 30) 12 2100) (gN (gN (gN (gN (gN (gN (gN (gN (gN (gN (gN (gN (gN (gN (gN (gN (gN (gN (gN (gN (gN (gN (gN (gN (gN (gN (gN (gN (gN (gN (gN (gN (gN (gN (gN (gN (gN (gN (gN (gN (gN (gN (gN (gN (gN (gN (gN (gN (gN (gN G 12 2000) 12 4000) 12 2) 12 16) 12 16) 12 16) 12 16) 12 16) 12 16) 12 16) 12 192) 12 192) 12 192) 12 192) 12 128) 12 128) 12 128) 12 128) 12 96) 12 96) 12 96) 12 96) 12 96) 12 2) 12 1040) 12 1040) 12 1040) 12 1040) 12 1040) 12 2) 12 4200) 12 4200) 12 4200) 12 4200) 12 4200) 12 4200) 12 4200) 12 16) 12 4200) 12 4200) 12 1100) 12 8) 12 96) 12 48) 12 8) 12 200) 12 30) 12 30) 12 30) 12 30).1 12 := Ty_new C0.2.2.2.2.2.2.2.2.2.1
  refine st_some ?_
  refine pt_11_69 C h rfl rfl (fun b hb => by cases hb; exact tn_51) (Ty_le (Gle_up Gle_rf) (Ty_le (Gle_up Gle_rf) (Ty_le (Gle_up Gle_rf) (Ty_le (Gle_up Gle_rf) (Ty_le (Gle_up Gle_rf) (Ty_le (Gle_up Gle_rf) (Ty_le (Gle_up Gle_rf) (Ty_le (Gle_up Gle_rf) (Ty_le (Gle_up Gle_rf) (Ty_le (Gle_up Gle_rf) (Ty_le (Gle_up Gle_rf) (Ty_le (Gle_up Gle_rf) (Ty_le (Gle_up Gle_rf) (Ty_le (Gle_up Gle_rf) (Ty_le (Gle_up Gle_rf) (Ty_le (Gle_up Gle_rf) (Ty_le (Gle_up Gle_rf) (Ty_le (Gle_up Gle_rf) (Ty_le (Gle_up Gle_rf) (Ty_le (Gle_up Gle_rf) (Ty_le (Gle_up Gle_rf) (Ty_le (Gle_up Gle_rf) (Ty_le (Gle_up Gle_rf) (Ty_le (Gle_up Gle_rf) (Ty_le (Gle_up Gle_rf) (Ty_le (Gle_up Gle_rf) (Ty_le (Gle_up Gle_rf) (Ty_le (Gle_up Gle_rf) (Ty_le (Gle_up Gle_rf) (Ty_le (Gle_up Gle_rf) (Ty_le (Gle_up Gle_rf) (Ty_le (Gle_up Gle_rf) (Ty_le (Gle_up Gle_rf) (Ty_le (Gle_up Gle_rf) (Ty_le (Gle_up Gle_rf) (Ty_le (Gle_up Gle_rf) (Ty_le (Gle_up Gle_rf) (Ty_le (Gle_up Gle_rf) (Ty_le (Gle_up Gle_rf) (Ty_le (Gle_up Gle_rf) (Ty_le (Gle_up Gle_rf) (Ty_le (Gle_up Gle_rf) (Ty_le (Gle_up Gle_rf) (Ty_le (Gle_up Gle_rf) (Ty_le (Gle_up Gle_rf) (Ty_le (Gle_up Gle_rf) (Ty_le (Gle_up Gle_rf) (Ty_le (Gle_up Gle_rf) (Ty_le (Gle_up Gle_rf) (Ty_le (Gle_up Gle_rf) (Ty_le (Gle_up Gle_rf) tx0))))))))))))))))))))))))))))))))))))))))))))))))))) fl_X11_165 dX11_init_439 (fun H locs h => ?_)
  refine lv_aload_n C.1 C.2.1 dX11_init_442 rfl (lv_at hl 0 rfl) ?_
  refine lv_bipush (v := 12) C.1 C.2.1 dX11_init_443 (by decide) ?_
  refine h_newa C h 12 (by decide) (by decide) rfl ac_int 12 (by decide) (by decide) (by decide) (by decide) (by decide) dX11_init_445 (fun H locs h => ?_)
  have C0 := C
  have C := Cx_le (Gle_up (κ := 12) (n := 12) Gle_rf) C
  have tn_52 : Ty E (gN (gN (gN (gN (gN (gN (gN (gN (gN (gN (gN (gN (gN (gN (gN (gN (gN (gN (gN (gN (gN (gN (gN (gN (gN (gN (gN (gN (gN (gN (gN (gN (gN (gN (gN (gN (gN (gN (gN (gN (gN (gN (gN (gN (gN (gN (gN (gN (gN (gN (gN (gN G 12 2000) 12 4000) 12 2) 12 16) 12 16) 12 16) 12 16) 12 16) 12 16) 12 16) 12 192) 12 192) 12 192) 12 192) 12 128) 12 128) 12 128) 12 128) 12 96) 12 96) 12 96) 12 96) 12 96) 12 2) 12 1040) 12 1040) 12 1040) 12 1040) 12 1040) 12 2) 12 4200) 12 4200) 12 4200) 12 4200) 12 4200) 12 4200) 12 4200) 12 16) 12 4200) 12 4200) 12 1100) 12 8) 12 96) 12 48) 12 8) 12 200) 12 30) 12 30) 12 30) 12 30) 12 2100) 12 12) (gN (gN (gN (gN (gN (gN (gN (gN (gN (gN (gN (gN (gN (gN (gN (gN (gN (gN (gN (gN (gN (gN (gN (gN (gN (gN (gN (gN (gN (gN (gN (gN (gN (gN (gN (gN (gN (gN (gN (gN (gN (gN (gN (gN (gN (gN (gN (gN (gN (gN (gN G 12 2000) 12 4000) 12 2) 12 16) 12 16) 12 16) 12 16) 12 16) 12 16) 12 16) 12 192) 12 192) 12 192) 12 192) 12 128) 12 128) 12 128) 12 128) 12 96) 12 96) 12 96) 12 96) 12 96) 12 2) 12 1040) 12 1040) 12 1040) 12 1040) 12 1040) 12 2) 12 4200) 12 4200) 12 4200) 12 4200) 12 4200) 12 4200) 12 4200) 12 16) 12 4200) 12 4200) 12 1100) 12 8) 12 96) 12 48) 12 8) 12 200) 12 30) 12 30) 12 30) 12 30) 12 2100).1 12 := Ty_new C0.2.2.2.2.2.2.2.2.2.1
  refine st_some ?_
  refine pt_11_73 C h rfl rfl (fun b hb => by cases hb; exact tn_52) (Ty_le (Gle_up Gle_rf) (Ty_le (Gle_up Gle_rf) (Ty_le (Gle_up Gle_rf) (Ty_le (Gle_up Gle_rf) (Ty_le (Gle_up Gle_rf) (Ty_le (Gle_up Gle_rf) (Ty_le (Gle_up Gle_rf) (Ty_le (Gle_up Gle_rf) (Ty_le (Gle_up Gle_rf) (Ty_le (Gle_up Gle_rf) (Ty_le (Gle_up Gle_rf) (Ty_le (Gle_up Gle_rf) (Ty_le (Gle_up Gle_rf) (Ty_le (Gle_up Gle_rf) (Ty_le (Gle_up Gle_rf) (Ty_le (Gle_up Gle_rf) (Ty_le (Gle_up Gle_rf) (Ty_le (Gle_up Gle_rf) (Ty_le (Gle_up Gle_rf) (Ty_le (Gle_up Gle_rf) (Ty_le (Gle_up Gle_rf) (Ty_le (Gle_up Gle_rf) (Ty_le (Gle_up Gle_rf) (Ty_le (Gle_up Gle_rf) (Ty_le (Gle_up Gle_rf) (Ty_le (Gle_up Gle_rf) (Ty_le (Gle_up Gle_rf) (Ty_le (Gle_up Gle_rf) (Ty_le (Gle_up Gle_rf) (Ty_le (Gle_up Gle_rf) (Ty_le (Gle_up Gle_rf) (Ty_le (Gle_up Gle_rf) (Ty_le (Gle_up Gle_rf) (Ty_le (Gle_up Gle_rf) (Ty_le (Gle_up Gle_rf) (Ty_le (Gle_up Gle_rf) (Ty_le (Gle_up Gle_rf) (Ty_le (Gle_up Gle_rf) (Ty_le (Gle_up Gle_rf) (Ty_le (Gle_up Gle_rf) (Ty_le (Gle_up Gle_rf) (Ty_le (Gle_up Gle_rf) (Ty_le (Gle_up Gle_rf) (Ty_le (Gle_up Gle_rf) (Ty_le (Gle_up Gle_rf) (Ty_le (Gle_up Gle_rf) (Ty_le (Gle_up Gle_rf) (Ty_le (Gle_up Gle_rf) (Ty_le (Gle_up Gle_rf) (Ty_le (Gle_up Gle_rf) (Ty_le (Gle_up Gle_rf) (Ty_le (Gle_up Gle_rf) tx0)))))))))))))))))))))))))))))))))))))))))))))))))))) fl_X11_168 dX11_init_447 (fun H locs h => ?_)
  cases hM
  exact h_vret C h dX11_init_450
