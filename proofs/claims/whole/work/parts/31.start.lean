def G00 (n : Nat) : GG := (n, fun _ => 99, fun _ => 0)
def m00 : MM := (fun _ _ => 0, fun _ _ => 0, fun _ _ => none)
/-- the law as a function of its script -/
def M_L_law (xs : Nat → Int32) (L n : Nat) : Option (Bool × MM) :=
  bg (K_X10_init (gN (G00 n) 10 0) n (clr m00 n)) fun g1 m1 =>
  bg (K_X11_init (gN g1 11 0) g1.1 (clr m1 g1.1)) fun g2 m2 =>
  B_L_law_18 g2 xs L FU n g1.1 0 m2
def ixS (i : Nat) : Nat := [70, 76, 78, 80, 82, 84, 86, 88, 90, 63].getD i 0
def tmS (i : Nat) : Term := .string "EnumRules$Tokens" (ixS i)
set_option maxRecDepth 100000 in
set_option maxHeartbeats 4000000 in
theorem str_start {args : Array Value} {s : State} {A : Nat → Prop} (hgv : (Jvm.Cond.and given_1 narrow_1).before args s = true) (hA : ∀ a : Nat, a < s.heap.size → ¬ A a) : ∃ adK adV : Nat → Nat, vk_S 10 lenS bytS adK adV A s s.heap ∧ ∀ i : Nat, i < 10 → (tmS i).eval args s none [] s = some (.ref (adK i)) := by
  have hs := flat_of_before _ hgv
  refine vk_Sof (tm := tmS) ?_ ?_ ?_ ?_ ?_ ?_ ?_ hA
  · intro i hi
    match i, hi with
    | 0, _ => exact (by decide)
    | 1, _ => exact (by decide)
    | 2, _ => exact (by decide)
    | 3, _ => exact (by decide)
    | 4, _ => exact (by decide)
    | 5, _ => exact (by decide)
    | 6, _ => exact (by decide)
    | 7, _ => exact (by decide)
    | 8, _ => exact (by decide)
    | 9, _ => exact (by decide)
    | i + 10, hi => exact absurd hi (by omega)
  · intro i hi
    match i, hi with
    | 0, _ => exact (hs _ (by decide +kernel))
    | 1, _ => exact (hs _ (by decide +kernel))
    | 2, _ => exact (hs _ (by decide +kernel))
    | 3, _ => exact (hs _ (by decide +kernel))
    | 4, _ => exact (hs _ (by decide +kernel))
    | 5, _ => exact (hs _ (by decide +kernel))
    | 6, _ => exact (hs _ (by decide +kernel))
    | 7, _ => exact (hs _ (by decide +kernel))
    | 8, _ => exact (hs _ (by decide +kernel))
    | 9, _ => exact (hs _ (by decide +kernel))
    | i + 10, hi => exact absurd hi (by omega)
  · intro i hi
    match i, hi with
    | 0, _ => exact (hs _ (by decide +kernel))
    | 1, _ => exact (hs _ (by decide +kernel))
    | 2, _ => exact (hs _ (by decide +kernel))
    | 3, _ => exact (hs _ (by decide +kernel))
    | 4, _ => exact (hs _ (by decide +kernel))
    | 5, _ => exact (hs _ (by decide +kernel))
    | 6, _ => exact (hs _ (by decide +kernel))
    | 7, _ => exact (hs _ (by decide +kernel))
    | 8, _ => exact (hs _ (by decide +kernel))
    | 9, _ => exact (hs _ (by decide +kernel))
    | i + 10, hi => exact absurd hi (by omega)
  · intro i hi
    match i, hi with
    | 0, _ => exact (hs _ (by decide +kernel))
    | 1, _ => exact (hs _ (by decide +kernel))
    | 2, _ => exact (hs _ (by decide +kernel))
    | 3, _ => exact (hs _ (by decide +kernel))
    | 4, _ => exact (hs _ (by decide +kernel))
    | 5, _ => exact (hs _ (by decide +kernel))
    | 6, _ => exact (hs _ (by decide +kernel))
    | 7, _ => exact (hs _ (by decide +kernel))
    | 8, _ => exact (hs _ (by decide +kernel))
    | 9, _ => exact (hs _ (by decide +kernel))
    | i + 10, hi => exact absurd hi (by omega)
  · intro i hi
    match i, hi with
    | 0, _ => exact (hs _ (by decide +kernel))
    | 1, _ => exact (hs _ (by decide +kernel))
    | 2, _ => exact (hs _ (by decide +kernel))
    | 3, _ => exact (hs _ (by decide +kernel))
    | 4, _ => exact (hs _ (by decide +kernel))
    | 5, _ => exact (hs _ (by decide +kernel))
    | 6, _ => exact (hs _ (by decide +kernel))
    | 7, _ => exact (hs _ (by decide +kernel))
    | 8, _ => exact (hs _ (by decide +kernel))
    | 9, _ => exact (hs _ (by decide +kernel))
    | i + 10, hi => exact absurd hi (by omega)
  · intro i hi j hj
    match i, hi, hj with
    | 0, _, hj =>
      have hj : j < 4 := hj
      match j, hj with
      | 0, _ => exact (hs _ (by decide +kernel))
      | 1, _ => exact (hs _ (by decide +kernel))
      | 2, _ => exact (hs _ (by decide +kernel))
      | 3, _ => exact (hs _ (by decide +kernel))
      | j + 4, hj => exact absurd hj (by omega)
    | 1, _, hj =>
      have hj : j < 8 := hj
      match j, hj with
      | 0, _ => exact (hs _ (by decide +kernel))
      | 1, _ => exact (hs _ (by decide +kernel))
      | 2, _ => exact (hs _ (by decide +kernel))
      | 3, _ => exact (hs _ (by decide +kernel))
      | 4, _ => exact (hs _ (by decide +kernel))
      | 5, _ => exact (hs _ (by decide +kernel))
      | 6, _ => exact (hs _ (by decide +kernel))
      | 7, _ => exact (hs _ (by decide +kernel))
      | j + 8, hj => exact absurd hj (by omega)
    | 2, _, hj =>
      have hj : j < 3 := hj
      match j, hj with
      | 0, _ => exact (hs _ (by decide +kernel))
      | 1, _ => exact (hs _ (by decide +kernel))
      | 2, _ => exact (hs _ (by decide +kernel))
      | j + 3, hj => exact absurd hj (by omega)
    | 3, _, hj =>
      have hj : j < 5 := hj
      match j, hj with
      | 0, _ => exact (hs _ (by decide +kernel))
      | 1, _ => exact (hs _ (by decide +kernel))
      | 2, _ => exact (hs _ (by decide +kernel))
      | 3, _ => exact (hs _ (by decide +kernel))
      | 4, _ => exact (hs _ (by decide +kernel))
      | j + 5, hj => exact absurd hj (by omega)
    | 4, _, hj =>
      have hj : j < 5 := hj
      match j, hj with
      | 0, _ => exact (hs _ (by decide +kernel))
      | 1, _ => exact (hs _ (by decide +kernel))
      | 2, _ => exact (hs _ (by decide +kernel))
      | 3, _ => exact (hs _ (by decide +kernel))
      | 4, _ => exact (hs _ (by decide +kernel))
      | j + 5, hj => exact absurd hj (by omega)
    | 5, _, hj =>
      have hj : j < 5 := hj
      match j, hj with
      | 0, _ => exact (hs _ (by decide +kernel))
      | 1, _ => exact (hs _ (by decide +kernel))
      | 2, _ => exact (hs _ (by decide +kernel))
      | 3, _ => exact (hs _ (by decide +kernel))
      | 4, _ => exact (hs _ (by decide +kernel))
      | j + 5, hj => exact absurd hj (by omega)
    | 6, _, hj =>
      have hj : j < 3 := hj
      match j, hj with
      | 0, _ => exact (hs _ (by decide +kernel))
      | 1, _ => exact (hs _ (by decide +kernel))
      | 2, _ => exact (hs _ (by decide +kernel))
      | j + 3, hj => exact absurd hj (by omega)
    | 7, _, hj =>
      have hj : j < 3 := hj
      match j, hj with
      | 0, _ => exact (hs _ (by decide +kernel))
      | 1, _ => exact (hs _ (by decide +kernel))
      | 2, _ => exact (hs _ (by decide +kernel))
      | j + 3, hj => exact absurd hj (by omega)
    | 8, _, hj =>
      have hj : j < 5 := hj
      match j, hj with
      | 0, _ => exact (hs _ (by decide +kernel))
      | 1, _ => exact (hs _ (by decide +kernel))
      | 2, _ => exact (hs _ (by decide +kernel))
      | 3, _ => exact (hs _ (by decide +kernel))
      | 4, _ => exact (hs _ (by decide +kernel))
      | j + 5, hj => exact absurd hj (by omega)
    | 9, _, hj =>
      have hj : j < 12 := hj
      match j, hj with
      | 0, _ => exact (hs _ (by decide +kernel))
      | 1, _ => exact (hs _ (by decide +kernel))
      | 2, _ => exact (hs _ (by decide +kernel))
      | 3, _ => exact (hs _ (by decide +kernel))
      | 4, _ => exact (hs _ (by decide +kernel))
      | 5, _ => exact (hs _ (by decide +kernel))
      | 6, _ => exact (hs _ (by decide +kernel))
      | 7, _ => exact (hs _ (by decide +kernel))
      | 8, _ => exact (hs _ (by decide +kernel))
      | 9, _ => exact (hs _ (by decide +kernel))
      | 10, _ => exact (hs _ (by decide +kernel))
      | 11, _ => exact (hs _ (by decide +kernel))
      | j + 12, hj => exact absurd hj (by omega)
    | i + 10, hi, _ => exact absurd hi (by omega)
  · intro i j hi hj hij
    match i, hi, hij with
    | 0, _, hij =>
      match j, hj, hij with
      | 0, _, hij => exact absurd rfl hij
      | 1, _, _ => exact Or.inl (hs _ (by decide +kernel))
      | 2, _, _ => exact Or.inl (hs _ (by decide +kernel))
      | 3, _, _ => exact Or.inl (hs _ (by decide +kernel))
      | 4, _, _ => exact Or.inl (hs _ (by decide +kernel))
      | 5, _, _ => exact Or.inl (hs _ (by decide +kernel))
      | 6, _, _ => exact Or.inl (hs _ (by decide +kernel))
      | 7, _, _ => exact Or.inl (hs _ (by decide +kernel))
      | 8, _, _ => exact Or.inl (hs _ (by decide +kernel))
      | 9, _, _ => exact Or.inl (hs _ (by decide +kernel))
      | j + 10, hj, _ => exact absurd hj (by omega)
    | 1, _, hij =>
      match j, hj, hij with
      | 0, _, _ => exact Or.inr (hs _ (by decide +kernel))
      | 1, _, hij => exact absurd rfl hij
      | 2, _, _ => exact Or.inl (hs _ (by decide +kernel))
      | 3, _, _ => exact Or.inl (hs _ (by decide +kernel))
      | 4, _, _ => exact Or.inl (hs _ (by decide +kernel))
      | 5, _, _ => exact Or.inl (hs _ (by decide +kernel))
      | 6, _, _ => exact Or.inl (hs _ (by decide +kernel))
      | 7, _, _ => exact Or.inl (hs _ (by decide +kernel))
      | 8, _, _ => exact Or.inl (hs _ (by decide +kernel))
      | 9, _, _ => exact Or.inl (hs _ (by decide +kernel))
      | j + 10, hj, _ => exact absurd hj (by omega)
    | 2, _, hij =>
      match j, hj, hij with
      | 0, _, _ => exact Or.inr (hs _ (by decide +kernel))
      | 1, _, _ => exact Or.inr (hs _ (by decide +kernel))
      | 2, _, hij => exact absurd rfl hij
      | 3, _, _ => exact Or.inl (hs _ (by decide +kernel))
      | 4, _, _ => exact Or.inl (hs _ (by decide +kernel))
      | 5, _, _ => exact Or.inl (hs _ (by decide +kernel))
      | 6, _, _ => exact Or.inl (hs _ (by decide +kernel))
      | 7, _, _ => exact Or.inl (hs _ (by decide +kernel))
      | 8, _, _ => exact Or.inl (hs _ (by decide +kernel))
      | 9, _, _ => exact Or.inl (hs _ (by decide +kernel))
      | j + 10, hj, _ => exact absurd hj (by omega)
    | 3, _, hij =>
      match j, hj, hij with
      | 0, _, _ => exact Or.inr (hs _ (by decide +kernel))
      | 1, _, _ => exact Or.inr (hs _ (by decide +kernel))
      | 2, _, _ => exact Or.inr (hs _ (by decide +kernel))
      | 3, _, hij => exact absurd rfl hij
      | 4, _, _ => exact Or.inl (hs _ (by decide +kernel))
      | 5, _, _ => exact Or.inl (hs _ (by decide +kernel))
      | 6, _, _ => exact Or.inl (hs _ (by decide +kernel))
      | 7, _, _ => exact Or.inl (hs _ (by decide +kernel))
      | 8, _, _ => exact Or.inl (hs _ (by decide +kernel))
      | 9, _, _ => exact Or.inl (hs _ (by decide +kernel))
      | j + 10, hj, _ => exact absurd hj (by omega)
    | 4, _, hij =>
      match j, hj, hij with
      | 0, _, _ => exact Or.inr (hs _ (by decide +kernel))
      | 1, _, _ => exact Or.inr (hs _ (by decide +kernel))
      | 2, _, _ => exact Or.inr (hs _ (by decide +kernel))
      | 3, _, _ => exact Or.inr (hs _ (by decide +kernel))
      | 4, _, hij => exact absurd rfl hij
      | 5, _, _ => exact Or.inl (hs _ (by decide +kernel))
      | 6, _, _ => exact Or.inl (hs _ (by decide +kernel))
      | 7, _, _ => exact Or.inl (hs _ (by decide +kernel))
      | 8, _, _ => exact Or.inl (hs _ (by decide +kernel))
      | 9, _, _ => exact Or.inl (hs _ (by decide +kernel))
      | j + 10, hj, _ => exact absurd hj (by omega)
    | 5, _, hij =>
      match j, hj, hij with
      | 0, _, _ => exact Or.inr (hs _ (by decide +kernel))
      | 1, _, _ => exact Or.inr (hs _ (by decide +kernel))
      | 2, _, _ => exact Or.inr (hs _ (by decide +kernel))
      | 3, _, _ => exact Or.inr (hs _ (by decide +kernel))
      | 4, _, _ => exact Or.inr (hs _ (by decide +kernel))
      | 5, _, hij => exact absurd rfl hij
      | 6, _, _ => exact Or.inl (hs _ (by decide +kernel))
      | 7, _, _ => exact Or.inl (hs _ (by decide +kernel))
      | 8, _, _ => exact Or.inl (hs _ (by decide +kernel))
      | 9, _, _ => exact Or.inl (hs _ (by decide +kernel))
      | j + 10, hj, _ => exact absurd hj (by omega)
    | 6, _, hij =>
      match j, hj, hij with
      | 0, _, _ => exact Or.inr (hs _ (by decide +kernel))
      | 1, _, _ => exact Or.inr (hs _ (by decide +kernel))
      | 2, _, _ => exact Or.inr (hs _ (by decide +kernel))
      | 3, _, _ => exact Or.inr (hs _ (by decide +kernel))
      | 4, _, _ => exact Or.inr (hs _ (by decide +kernel))
      | 5, _, _ => exact Or.inr (hs _ (by decide +kernel))
      | 6, _, hij => exact absurd rfl hij
      | 7, _, _ => exact Or.inl (hs _ (by decide +kernel))
      | 8, _, _ => exact Or.inl (hs _ (by decide +kernel))
      | 9, _, _ => exact Or.inl (hs _ (by decide +kernel))
      | j + 10, hj, _ => exact absurd hj (by omega)
    | 7, _, hij =>
      match j, hj, hij with
      | 0, _, _ => exact Or.inr (hs _ (by decide +kernel))
      | 1, _, _ => exact Or.inr (hs _ (by decide +kernel))
      | 2, _, _ => exact Or.inr (hs _ (by decide +kernel))
      | 3, _, _ => exact Or.inr (hs _ (by decide +kernel))
      | 4, _, _ => exact Or.inr (hs _ (by decide +kernel))
      | 5, _, _ => exact Or.inr (hs _ (by decide +kernel))
      | 6, _, _ => exact Or.inr (hs _ (by decide +kernel))
      | 7, _, hij => exact absurd rfl hij
      | 8, _, _ => exact Or.inl (hs _ (by decide +kernel))
      | 9, _, _ => exact Or.inl (hs _ (by decide +kernel))
      | j + 10, hj, _ => exact absurd hj (by omega)
    | 8, _, hij =>
      match j, hj, hij with
      | 0, _, _ => exact Or.inr (hs _ (by decide +kernel))
      | 1, _, _ => exact Or.inr (hs _ (by decide +kernel))
      | 2, _, _ => exact Or.inr (hs _ (by decide +kernel))
      | 3, _, _ => exact Or.inr (hs _ (by decide +kernel))
      | 4, _, _ => exact Or.inr (hs _ (by decide +kernel))
      | 5, _, _ => exact Or.inr (hs _ (by decide +kernel))
      | 6, _, _ => exact Or.inr (hs _ (by decide +kernel))
      | 7, _, _ => exact Or.inr (hs _ (by decide +kernel))
      | 8, _, hij => exact absurd rfl hij
      | 9, _, _ => exact Or.inl (hs _ (by decide +kernel))
      | j + 10, hj, _ => exact absurd hj (by omega)
    | 9, _, hij =>
      match j, hj, hij with
      | 0, _, _ => exact Or.inr (hs _ (by decide +kernel))
      | 1, _, _ => exact Or.inr (hs _ (by decide +kernel))
      | 2, _, _ => exact Or.inr (hs _ (by decide +kernel))
      | 3, _, _ => exact Or.inr (hs _ (by decide +kernel))
      | 4, _, _ => exact Or.inr (hs _ (by decide +kernel))
      | 5, _, _ => exact Or.inr (hs _ (by decide +kernel))
      | 6, _, _ => exact Or.inr (hs _ (by decide +kernel))
      | 7, _, _ => exact Or.inr (hs _ (by decide +kernel))
      | 8, _, _ => exact Or.inr (hs _ (by decide +kernel))
      | 9, _, hij => exact absurd rfl hij
      | j + 10, hj, _ => exact absurd hj (by omega)
    | i + 10, hi, _ => exact absurd hi (by omega)
set_option maxRecDepth 100000 in
set_option maxHeartbeats 4000000 in
theorem world_start {p : Program} {s : State} {mth : MethodId} {meth : Method} {c : Code} {b L : Nat} {xs : Nat → Int32} (C0 : lw_At p s mth meth c b L xs) : ∃ E : EE, E.2.2.1 = s.heap.size ∧ KK E s ∧ SS E s s.heap := by
  obtain ⟨hx, hb, hr, hml, hown, hts, hX, hbl, hlocks, hgv⟩ := C0
  have hs := flat_of_before _ hgv
  have htg : ∀ w ∈ lwg, w.before #[Value.ref b] s = true := fun w hw => hts w (List.mem_filter.mp hw).1
  obtain ⟨c0, i0, k0⟩ := u_known (C := RX0) (T := TX0) (N := 5) htg iw_X0 (htg _ is_X0)
  obtain ⟨c1, i1, k1⟩ := u_known (C := RX1) (T := TX1) (N := 19) htg iw_X1 (htg _ is_X1)
  obtain ⟨c2, i2, k2⟩ := u_known (C := RX2) (T := TX2) (N := 9) htg iw_X2 (htg _ is_X2)
  obtain ⟨c3, i3, k3⟩ := u_known (C := RX3) (T := TX3) (N := 2) htg iw_X3 (htg _ is_X3)
  obtain ⟨c5, i5, k5⟩ := u_known (C := RX5) (T := TX5) (N := 5) htg iw_X5 (htg _ is_X5)
  obtain ⟨c6, i6, k6⟩ := u_known (C := RX6) (T := TX6) (N := 6) htg iw_X6 (htg _ is_X6)
  obtain ⟨c7, i7, k7⟩ := u_known (C := RX7) (T := TX7) (N := 6) htg iw_X7 (htg _ is_X7)
  obtain ⟨c8, i8, k8⟩ := u_known (C := RX8) (T := TX8) (N := 2) htg iw_X8 (htg _ is_X8)
  obtain ⟨c9, i9, k9⟩ := u_known (C := RX9) (T := TX9) (N := 6) htg iw_X9 (htg _ is_X9)
  obtain ⟨c10, i10, k10⟩ := u_known (C := RX10) (T := TX10) (N := 12) htg iw_X10 (htg _ is_X10)
  obtain ⟨c11, i11, k11⟩ := u_known (C := RX11) (T := TX11) (N := 74) htg iw_X11 (htg _ is_X11)
  obtain ⟨a12, kA12, comp12, f12, g12, h12⟩ := Cond.arrayClass_spec (htg _ ac_int)
  obtain ⟨a13, kA13, comp13, f13, g13, h13⟩ := Cond.arrayClass_spec (htg _ ac_byte)
  obtain ⟨a14, kA14, comp14, f14, g14, h14⟩ := Cond.arrayClass_spec (htg _ ac_boolean)
  obtain ⟨a15, kA15, comp15, f15, g15, h15⟩ := Cond.arrayClass_spec (htg _ ac_long)
  have hAO : va_AO RX1 s := va_AO.of (hts _ (List.mem_append_right _ (List.mem_of_getElem? (i := 33) (by decide +kernel))))
  obtain ⟨comp16, a16, kA16, f16, -, g16, h16, n16⟩ := Cond.arrayOver_spec hAO
  have hA : ∀ a : Nat, a < s.heap.size → ¬ (fun q => s.heap.size ≤ q) a := fun a h => Nat.not_le.mpr h
  obtain ⟨adK, adV, hS1, hS2⟩ := str_start (A := fun q => s.heap.size ≤ q) hgv hA
  refine ⟨((fun k => if k = 0 then c0 else if k = 1 then c1 else if k = 2 then c2 else if k = 3 then c3 else if k = 4 then c3 else if k = 5 then c5 else if k = 6 then c6 else if k = 7 then c7 else if k = 8 then c8 else if k = 9 then c9 else if k = 10 then c10 else c11, fun k => if k = 0 then i0 else if k = 1 then i1 else if k = 2 then i2 else if k = 3 then i3 else if k = 4 then i3 else if k = 5 then i5 else if k = 6 then i6 else if k = 7 then i7 else if k = 8 then i8 else if k = 9 then i9 else if k = 10 then i10 else i11), fun k => if k = 12 then a12 else if k = 13 then a13 else if k = 14 then a14 else if k = 15 then a15 else a16, s.heap.size, adK, adV), rfl, ⟨?_, ?_, ?_, hAO⟩, ⟨hS1, ?_, ?_, ?_⟩⟩
  · intro k q hq
    match k, hq with
    | 0, hq => cases hq; exact k0
    | 1, hq => cases hq; exact k1
    | 2, hq => cases hq; exact k2
    | 3, hq => cases hq; exact k3
    | 4, hq => cases hq; exact k3
    | 5, hq => cases hq; exact k5
    | 6, hq => cases hq; exact k6
    | 7, hq => cases hq; exact k7
    | 8, hq => cases hq; exact k8
    | 9, hq => cases hq; exact k9
    | 10, hq => cases hq; exact k10
    | 11, hq => cases hq; exact k11
    | k + 12, hq => simp [vwCl] at hq
  · intro κ h1 h2
    rcases (show κ = 12 ∨ κ = 13 ∨ κ = 14 ∨ κ = 15 ∨ κ = 16 by omega) with rfl | rfl | rfl | rfl | rfl
    · exact ⟨fun n z => ⟨fun k h => (by cases h), kA12, g12, comp12, h12⟩, f12⟩
    · exact ⟨fun n z => ⟨fun k h => (by cases h), kA13, g13, comp13, h13⟩, f13⟩
    · exact ⟨fun n z => ⟨fun k h => (by cases h), kA14, g14, comp14, h14⟩, f14⟩
    · exact ⟨fun n z => ⟨fun k h => (by cases h), kA15, g15, comp15, h15⟩, f15⟩
    · exact ⟨fun n z => ⟨fun k h => (by cases h), kA16, g16, comp16, h16⟩, kA16, comp16, g16, h16, f16, n16⟩
  · intro q hq
    simp only [lwn, List.mem_cons, List.not_mem_nil, or_false] at hq
    rcases hq with rfl | rfl | rfl | rfl | rfl | rfl | rfl | rfl
    · exact va_Nw.of rfl (hts _ (List.mem_append_right _ (List.mem_of_getElem? (i := 35) (by decide +kernel))))
    · exact va_Nw.of rfl (hts _ (List.mem_append_right _ (List.mem_of_getElem? (i := 164) (by decide +kernel))))
    · exact va_Nw.of rfl (hts _ (List.mem_append_right _ (List.mem_of_getElem? (i := 180) (by decide +kernel))))
    · exact va_Nw.of rfl (hts _ (List.mem_append_right _ (List.mem_of_getElem? (i := 195) (by decide +kernel))))
    · exact va_Nw.of rfl (hts _ (List.mem_append_right _ (List.mem_of_getElem? (i := 201) (by decide +kernel))))
    · exact va_Nw.of rfl (hts _ (List.mem_append_right _ (List.mem_of_getElem? (i := 232) (by decide +kernel))))
    · exact va_Nw.of rfl (hts _ (List.mem_append_right _ (List.mem_of_getElem? (i := 282) (by decide +kernel))))
    · exact va_Nw.of rfl (hts _ (List.mem_append_right _ (List.mem_of_getElem? (i := 304) (by decide +kernel))))
  · intro i q hq
    match i, hq with
    | 0, hq => cases hq; exact vk_R.of (A := #[Value.ref b]) (hts _ (List.mem_append_right _ (List.mem_of_getElem? (i := 427) (by decide +kernel)))) (hS2 0 (by decide))
    | 1, hq => cases hq; exact vk_R.of (A := #[Value.ref b]) (hts _ (List.mem_append_right _ (List.mem_of_getElem? (i := 480) (by decide +kernel)))) (hS2 1 (by decide))
    | 2, hq => cases hq; exact vk_R.of (A := #[Value.ref b]) (hts _ (List.mem_append_right _ (List.mem_of_getElem? (i := 481) (by decide +kernel)))) (hS2 2 (by decide))
    | 3, hq => cases hq; exact vk_R.of (A := #[Value.ref b]) (hts _ (List.mem_append_right _ (List.mem_of_getElem? (i := 482) (by decide +kernel)))) (hS2 3 (by decide))
    | 4, hq => cases hq; exact vk_R.of (A := #[Value.ref b]) (hts _ (List.mem_append_right _ (List.mem_of_getElem? (i := 483) (by decide +kernel)))) (hS2 4 (by decide))
    | 5, hq => cases hq; exact vk_R.of (A := #[Value.ref b]) (hts _ (List.mem_append_right _ (List.mem_of_getElem? (i := 484) (by decide +kernel)))) (hS2 5 (by decide))
    | 6, hq => cases hq; exact vk_R.of (A := #[Value.ref b]) (hts _ (List.mem_append_right _ (List.mem_of_getElem? (i := 485) (by decide +kernel)))) (hS2 6 (by decide))
    | 7, hq => cases hq; exact vk_R.of (A := #[Value.ref b]) (hts _ (List.mem_append_right _ (List.mem_of_getElem? (i := 486) (by decide +kernel)))) (hS2 7 (by decide))
    | 8, hq => cases hq; exact vk_R.of (A := #[Value.ref b]) (hts _ (List.mem_append_right _ (List.mem_of_getElem? (i := 487) (by decide +kernel)))) (hS2 8 (by decide))
    | 9, hq => cases hq; exact vk_R.of (A := #[Value.ref b]) (hts _ (List.mem_append_right _ (List.mem_of_getElem? (i := 504) (by decide +kernel)))) (hS2 9 (by decide))
    | i + 10, hq => simp [txS] at hq
  · exact va_Zof (hts _ (List.mem_append_right _ (List.mem_of_getElem? (i := 441) (by decide +kernel)))) (hts _ (List.mem_append_right _ (List.mem_of_getElem? (i := 12) (by decide +kernel)))) (va_eqi (hs _ (by decide +kernel))) hA
  · exact va_Zqof (hts _ (List.mem_append_right _ (List.mem_of_getElem? (i := 457) (by decide +kernel)))) (hts _ (List.mem_append_right _ (List.mem_of_getElem? (i := 14) (by decide +kernel)))) (hs _ (by decide +kernel)) hA
set_option maxRecDepth 100000 in
set_option maxHeartbeats 4000000 in
theorem whole_start_open (hpure : ∀ (xs : Nat → Int32) (L n : Nat), L ≤ 3072 → ∃ m9 : MM, M_L_law xs L n = some (true, m9)) {p : Program} {e : Env} {s : State} {m : MethodId} {below : List Frame} {meth : Method} {c : Code} (l : Launch) {b L : Nat} {xs : Nat → Int32} (hL : L ≤ 3072) (C0 : lw_At p s m meth c b L xs) : W p l e room_1 s m #[Value.ref b] below meth c s.heap [] 0 0 (lw_Z below #[Value.ref b] s) (entryFrame m ([Value.ref b] : List Value).toArray 4) := by
  obtain ⟨E, hE, hKK, hSS⟩ := world_start C0
  obtain ⟨hx, hb, hr, hml, hown, hts, hX, hbl, hlocks, hgv⟩ := C0
  have htg : ∀ w ∈ lwg, w.before #[Value.ref b] s = true := fun w hw => hts w (List.mem_filter.mp hw).1
  have X : Lx E s b L xs := ⟨hX, hbl, hE⟩
  have C : Cx E (G00 s.heap.size) p s m #[Value.ref b] meth c cL_law RL meth.name 4 (some .boolean) := ⟨hx, hb, hml, hown, htg, hr, hlocks, hKK, hSS, Nat.le_of_eq hE, Nat.le_of_eq hE, rfl⟩
  have h : Hp E (G00 s.heap.size) m00 s s.heap [] := ⟨⟨rfl, fun a h1 h2 => absurd h2 (by rw [hE] at h1; exact Nat.not_lt.mpr h1)⟩, fun a k b h1 h2 => absurd h2 (by rw [hE] at h1; exact Nat.not_lt.mpr h1), va_S.rf⟩
  obtain ⟨m9, hM⟩ := hpure xs L s.heap.size hL
  have hl := lv_entry ([Value.ref b]) (n := 4) (Nat.le_of_ble_eq_true rfl)
  rw [lg_entry_eq]
  generalize (lg_sl ([Value.ref b]) ++ List.replicate (4 - (lg_sl ([Value.ref b])).length) Slot.unset).toArray = ls at hl ⊢
  have hl : lv_has ls 4 [(0, .ref b)] := hl
  unfold M_L_law at hM
  refine h_new C h 10 rfl (by decide) rfl iw_X10 tyX10_ok (by decide +kernel) cl_L_7 is_X10 ii_X10 (by decide) (by decide) dL_law_0 (fun H locs h => ?_)
  have t1 : Ty E (gN (G00 s.heap.size) 10 0) s.heap.size 10 := Ty_new (G := G00 s.heap.size) (Nat.le_of_eq hE)
  have C := Cx_le (Gle_up (κ := 10) (n := 0) Gle_rf) C
  refine lv_dup C.1 C.2.1 dL_law_3 rfl ?_
  obtain ⟨g1, m1, hc1, hM⟩ := bg_some hM
  refine h_callI C h (rest := [.ref s.heap.size]) g1 m1 (c_X10_init hc1 t1 C.2.2.2.2.2.2.2.2.2.1) rfl im_yX10_init cy_X10_init ml_L_9 ⟨by decide, by decide⟩ ⟨by decide, by decide⟩ hl.1 rfl (Nat.le_of_ble_eq_true rfl) dL_law_4 (fun H locs h => ?_)
  have t1 := Ty_le (gle_X10_init hc1) t1
  have C := Cx_le (gle_X10_init hc1) C
  refine lv_astore_n (lv' := [(1, .ref s.heap.size), (0, .ref b)]) C.1 C.2.1 dL_law_7 rfl hl (by decide) rfl (fun ls hl => ?_)
  refine h_new C h 11 rfl (by decide) rfl iw_X11 tyX11_ok (by decide +kernel) cl_L_10 is_X11 ii_X11 (by decide) (by decide) dL_law_8 (fun H locs h => ?_)
  have t2 : Ty E (gN g1 11 0) g1.1 11 := Ty_new C.2.2.2.2.2.2.2.2.2.1
  have t1 := Ty_le (Gle_up (κ := 11) (n := 0) Gle_rf) t1
  have C := Cx_le (Gle_up (κ := 11) (n := 0) Gle_rf) C
  refine lv_dup C.1 C.2.1 dL_law_11 rfl ?_
  obtain ⟨g2, m2, hc2, hM⟩ := bg_some hM
  refine h_callI C h (rest := [.ref g1.1]) g2 m2 (c_X11_init hc2 t2 C.2.2.2.2.2.2.2.2.2.1) rfl im_yX11_init cy_X11_init ml_L_12 ⟨by decide, by decide⟩ ⟨by decide, by decide⟩ hl.1 rfl (Nat.le_of_ble_eq_true rfl) dL_law_12 (fun H locs h => ?_)
  have t1 := Ty_le (gle_X11_init hc2) t1
  have t2 := Ty_le (gle_X11_init hc2) t2
  have C := Cx_le (gle_X11_init hc2) C
  refine lv_astore_n (lv' := [(2, .ref g1.1), (1, .ref s.heap.size), (0, .ref b)]) C.1 C.2.1 dL_law_15 rfl hl (by decide) rfl (fun ls hl => ?_)
  refine lv_iconst (v := 0) C.1 C.2.1 dL_law_16 (by decide) ?_
  refine lv_istore_n (lv' := [(3, .int 0), (2, .ref g1.1), (1, .ref s.heap.size), (0, .ref b)]) C.1 C.2.1 dL_law_17 rfl hl (by decide) rfl (fun ls hl => ?_)
  exact cB_L_law_18 X C _ _ _ _ _ hM t1 t2 _ _ h ls (lv_sub hl [3, 2, 1, 0] rfl)
