/-! what holds at the entry of the law: the classes, the arrays, the links, the strings -/
abbrev lw_tm : Nat → Term := fun i => .string "StarterBay$TimetableText" ([75, 77, 79, 81, 83].getD i 0)
theorem lw_arr {s : State} {args : Array Value} {ty : FieldType} (h : (Cond.arrayClass ty).before args s = true) : ∃ cA : ClassId, ArrOfT s cA ty ∧ s.vm.findClass ("[" ++ ty.toString) = some cA := by
  obtain ⟨c, k, comp, h1, h2, h3⟩ := Cond.arrayClass_spec h
  exact ⟨c, fun n z => ⟨(fun k h => by cases h), k, h2, comp, h3⟩, h1⟩
theorem lw_arrO {s : State} {args : Array Value} {C : String} (h : (Cond.arrayOver (.object C)).before args s = true) : ∃ cA : ClassId, ArrOfT s cA (.object C) ∧ va_RA s cA (.object C) := by
  obtain ⟨comp, c, k, h1, h2, h3, h4, h5⟩ := Cond.arrayOver_spec h
  exact ⟨c, fun n z => ⟨(fun k h => by cases h), k, h3, comp, h4⟩, k, comp, h3, h4, h1, h5⟩
set_option maxHeartbeats 4000000 in
set_option maxRecDepth 100000 in
theorem lw_str {s : State} {b : Addr} (hgv : (Jvm.Cond.and given_1 narrow_1).before #[Value.ref b] s = true) : ∃ adK adV : Nat → Nat, vk_S 5 bz_len bz_byt adK adV (fun q => s.heap.size ≤ q) s s.heap ∧ ∀ i : Nat, i < 5 → (lw_tm i).eval #[Value.ref b] s none [] s = some (.ref (adK i)) := by
  have hs := flat_of_before _ hgv
  refine vk_Sof (tm := lw_tm) ?_ ?_ ?_ ?_ ?_ ?_ ?_ (fun a h => Nat.not_le.mpr h)
  · intro i hi; match i, hi with
    | 0, _ => exact by decide
    | 1, _ => exact by decide
    | 2, _ => exact by decide
    | 3, _ => exact by decide
    | 4, _ => exact by decide
  · intro i hi; match i, hi with
    | 0, _ => exact (hs _ (List.mem_of_getElem? (i := 23) (by decide +kernel)))
    | 1, _ => exact (hs _ (List.mem_of_getElem? (i := 32) (by decide +kernel)))
    | 2, _ => exact (hs _ (List.mem_of_getElem? (i := 41) (by decide +kernel)))
    | 3, _ => exact (hs _ (List.mem_of_getElem? (i := 51) (by decide +kernel)))
    | 4, _ => exact (hs _ (List.mem_of_getElem? (i := 63) (by decide +kernel)))
  · intro i hi; match i, hi with
    | 0, _ => exact (hs _ (List.mem_of_getElem? (i := 24) (by decide +kernel)))
    | 1, _ => exact (hs _ (List.mem_of_getElem? (i := 33) (by decide +kernel)))
    | 2, _ => exact (hs _ (List.mem_of_getElem? (i := 42) (by decide +kernel)))
    | 3, _ => exact (hs _ (List.mem_of_getElem? (i := 52) (by decide +kernel)))
    | 4, _ => exact (hs _ (List.mem_of_getElem? (i := 64) (by decide +kernel)))
  · intro i hi; match i, hi with
    | 0, _ => exact (hs _ (List.mem_of_getElem? (i := 25) (by decide +kernel)))
    | 1, _ => exact (hs _ (List.mem_of_getElem? (i := 34) (by decide +kernel)))
    | 2, _ => exact (hs _ (List.mem_of_getElem? (i := 43) (by decide +kernel)))
    | 3, _ => exact (hs _ (List.mem_of_getElem? (i := 53) (by decide +kernel)))
    | 4, _ => exact (hs _ (List.mem_of_getElem? (i := 65) (by decide +kernel)))
  · intro i hi; match i, hi with
    | 0, _ => exact (hs _ (List.mem_of_getElem? (i := 26) (by decide +kernel)))
    | 1, _ => exact (hs _ (List.mem_of_getElem? (i := 35) (by decide +kernel)))
    | 2, _ => exact (hs _ (List.mem_of_getElem? (i := 44) (by decide +kernel)))
    | 3, _ => exact (hs _ (List.mem_of_getElem? (i := 54) (by decide +kernel)))
    | 4, _ => exact (hs _ (List.mem_of_getElem? (i := 66) (by decide +kernel)))
  · intro i hi j hj; match i, hi, j, hj with
    | 0, _, 0, _ => exact (hs _ (List.mem_of_getElem? (i := 27) (by decide +kernel)))
    | 0, _, 1, _ => exact (hs _ (List.mem_of_getElem? (i := 28) (by decide +kernel)))
    | 0, _, 2, _ => exact (hs _ (List.mem_of_getElem? (i := 29) (by decide +kernel)))
    | 0, _, 3, _ => exact (hs _ (List.mem_of_getElem? (i := 30) (by decide +kernel)))
    | 0, _, 4, _ => exact (hs _ (List.mem_of_getElem? (i := 31) (by decide +kernel)))
    | 0, _, j + 5, hj => exact absurd hj (by simp [bz_len])
    | 1, _, 0, _ => exact (hs _ (List.mem_of_getElem? (i := 36) (by decide +kernel)))
    | 1, _, 1, _ => exact (hs _ (List.mem_of_getElem? (i := 37) (by decide +kernel)))
    | 1, _, 2, _ => exact (hs _ (List.mem_of_getElem? (i := 38) (by decide +kernel)))
    | 1, _, 3, _ => exact (hs _ (List.mem_of_getElem? (i := 39) (by decide +kernel)))
    | 1, _, j + 4, hj => exact absurd hj (by simp [bz_len])
    | 2, _, 0, _ => exact (hs _ (List.mem_of_getElem? (i := 45) (by decide +kernel)))
    | 2, _, 1, _ => exact (hs _ (List.mem_of_getElem? (i := 46) (by decide +kernel)))
    | 2, _, 2, _ => exact (hs _ (List.mem_of_getElem? (i := 47) (by decide +kernel)))
    | 2, _, 3, _ => exact (hs _ (List.mem_of_getElem? (i := 48) (by decide +kernel)))
    | 2, _, j + 4, hj => exact absurd hj (by simp [bz_len])
    | 3, _, 0, _ => exact (hs _ (List.mem_of_getElem? (i := 55) (by decide +kernel)))
    | 3, _, 1, _ => exact (hs _ (List.mem_of_getElem? (i := 56) (by decide +kernel)))
    | 3, _, 2, _ => exact (hs _ (List.mem_of_getElem? (i := 57) (by decide +kernel)))
    | 3, _, 3, _ => exact (hs _ (List.mem_of_getElem? (i := 58) (by decide +kernel)))
    | 3, _, 4, _ => exact (hs _ (List.mem_of_getElem? (i := 59) (by decide +kernel)))
    | 3, _, j + 5, hj => exact absurd hj (by simp [bz_len])
    | 4, _, 0, _ => exact (hs _ (List.mem_of_getElem? (i := 67) (by decide +kernel)))
    | 4, _, 1, _ => exact (hs _ (List.mem_of_getElem? (i := 68) (by decide +kernel)))
    | 4, _, 2, _ => exact (hs _ (List.mem_of_getElem? (i := 69) (by decide +kernel)))
    | 4, _, j + 3, hj => exact absurd hj (by simp [bz_len])
  · intro i j hi hj hne; match i, hi, j, hj with
    | 0, _, 0, _ => exact absurd rfl hne
    | 0, _, 1, _ => exact Or.inl (hs _ (List.mem_of_getElem? (i := 40) (by decide +kernel)))
    | 0, _, 2, _ => exact Or.inl (hs _ (List.mem_of_getElem? (i := 49) (by decide +kernel)))
    | 0, _, 3, _ => exact Or.inl (hs _ (List.mem_of_getElem? (i := 60) (by decide +kernel)))
    | 0, _, 4, _ => exact Or.inl (hs _ (List.mem_of_getElem? (i := 70) (by decide +kernel)))
    | 1, _, 0, _ => exact Or.inr (hs _ (List.mem_of_getElem? (i := 40) (by decide +kernel)))
    | 1, _, 1, _ => exact absurd rfl hne
    | 1, _, 2, _ => exact Or.inl (hs _ (List.mem_of_getElem? (i := 50) (by decide +kernel)))
    | 1, _, 3, _ => exact Or.inl (hs _ (List.mem_of_getElem? (i := 61) (by decide +kernel)))
    | 1, _, 4, _ => exact Or.inl (hs _ (List.mem_of_getElem? (i := 71) (by decide +kernel)))
    | 2, _, 0, _ => exact Or.inr (hs _ (List.mem_of_getElem? (i := 49) (by decide +kernel)))
    | 2, _, 1, _ => exact Or.inr (hs _ (List.mem_of_getElem? (i := 50) (by decide +kernel)))
    | 2, _, 2, _ => exact absurd rfl hne
    | 2, _, 3, _ => exact Or.inl (hs _ (List.mem_of_getElem? (i := 62) (by decide +kernel)))
    | 2, _, 4, _ => exact Or.inl (hs _ (List.mem_of_getElem? (i := 72) (by decide +kernel)))
    | 3, _, 0, _ => exact Or.inr (hs _ (List.mem_of_getElem? (i := 60) (by decide +kernel)))
    | 3, _, 1, _ => exact Or.inr (hs _ (List.mem_of_getElem? (i := 61) (by decide +kernel)))
    | 3, _, 2, _ => exact Or.inr (hs _ (List.mem_of_getElem? (i := 62) (by decide +kernel)))
    | 3, _, 3, _ => exact absurd rfl hne
    | 3, _, 4, _ => exact Or.inl (hs _ (List.mem_of_getElem? (i := 73) (by decide +kernel)))
    | 4, _, 0, _ => exact Or.inr (hs _ (List.mem_of_getElem? (i := 70) (by decide +kernel)))
    | 4, _, 1, _ => exact Or.inr (hs _ (List.mem_of_getElem? (i := 71) (by decide +kernel)))
    | 4, _, 2, _ => exact Or.inr (hs _ (List.mem_of_getElem? (i := 72) (by decide +kernel)))
    | 4, _, 3, _ => exact Or.inr (hs _ (List.mem_of_getElem? (i := 73) (by decide +kernel)))
    | 4, _, 4, _ => exact absurd rfl hne
set_option maxHeartbeats 4000000 in
set_option maxRecDepth 100000 in
theorem lw_facts {s : State} {b : Addr} (hts : ∀ w ∈ lw_tbl, w.before #[Value.ref b] s = true) (hgv : (Jvm.Cond.and given_1 narrow_1).before #[Value.ref b] s = true) : ∃ (D : va_G) (cy : Nat → ClassId) (aK aV : Nat → Nat), ∀ (κ : Nat → Nat × Nat) (L : List Nat) (A : Nat → Prop), bz_Z (D, cy, κ, L, A, aK, aV) → (∀ q, A q → s.heap.size ≤ q) → bz_K (D, cy, κ, L, A, aK, aV) s ∧ bz_S (D, cy, κ, L, A, aK, aV) s s.heap := by
  have hs := flat_of_before _ hgv
  obtain ⟨c0, i0, hK0⟩ := u_known (C := RX0) (T := TX0) (N := 4) (n := 4) hts (fun w h => bz_B_in w (bp_X0 w h)) (hts _ (bz_B_in _ wd_2_15))
  obtain ⟨c1, i1, hK1⟩ := u_known (C := RX1) (T := TX1) (N := 2) (n := 2) hts (fun w h => bz_B_in w (bp_X1 w h)) (hts _ (bz_B_in _ wd_1_14))
  obtain ⟨c2, i2, hK2⟩ := u_known (C := RX2) (T := TX2) (N := 15) (n := 15) hts (fun w h => bz_B_in w (bp_X2 w h)) (hts _ (bz_B_in _ wd_2_10))
  obtain ⟨c3, i3, hK3⟩ := u_known (C := RX3) (T := TX3) (N := 8) (n := 8) hts (fun w h => bz_B_in w (bp_X3 w h)) (hts _ (bz_B_in _ wd_1_10))
  obtain ⟨c4, i4, hK4⟩ := u_known (C := RX4) (T := TX4) (N := 6) (n := 6) hts (fun w h => bz_B_in w (bp_X4 w h)) (hts _ (bz_B_in _ wd_1_23))
  obtain ⟨c5, i5, hK5⟩ := u_known (C := RX5) (T := TX5) (N := 7) (n := 7) hts (fun w h => bz_B_in w (bp_X5 w h)) (hts _ (bz_B_in _ wd_1_19))
  obtain ⟨c6, i6, hK6⟩ := u_known (C := RX6) (T := TX6) (N := 8) (n := 8) hts (fun w h => bz_B_in w (bp_X6 w h)) (hts _ (bz_B_in _ wd_1_1))
  obtain ⟨a0, g0, n0⟩ := lw_arr (hts _ (bz_B_in _ wd_2_2))
  obtain ⟨a1, g1, n1⟩ := lw_arr (hts _ (bz_B_in _ wd_4_3))
  have o2 : (Cond.arrayOver (.object RX2)).before #[Value.ref b] s = true := (hts _ (List.mem_of_getElem? (i := 52) (by decide +kernel)))
  have o3 : (Cond.arrayOver (.object RX3)).before #[Value.ref b] s = true := (hts _ (List.mem_of_getElem? (i := 217) (by decide +kernel)))
  obtain ⟨a2, g2, n2⟩ := lw_arrO o2
  obtain ⟨a3, g3, n3⟩ := lw_arrO o3
  obtain ⟨aK, aV, hS, hE⟩ := lw_str hgv
  refine ⟨(fun k => [c0, c1, c2, c3, c4, c5, c6].getD k c0, fun k => [i0, i1, i2, i3, i4, i5, i6].getD k i0), fun k => [a0, a1, a2, a3].getD k a0, aK, aV, fun κ L A hZ hA => ⟨⟨⟨?_, ?_⟩, ⟨?_, ?_, ?_, ?_, ?_, ?_, ?_⟩, ⟨?_, ?_, ?_, ?_, ?_⟩, hZ⟩, ?_, ?_, ?_⟩⟩
  · intro k q hq
    match k, hq with
    | 0, hq => cases hq; exact hK0
    | 1, hq => cases hq; exact hK1
    | 2, hq => cases hq; exact hK2
    | 3, hq => cases hq; exact hK3
    | 4, hq => cases hq; exact hK4
    | 5, hq => cases hq; exact hK5
    | 6, hq => cases hq; exact hK6
    | k + 7, hq => simp [vwCl] at hq
  · intro k q hq
    match k, hq with
    | 0, hq => cases hq; exact ⟨g0, n0⟩
    | 1, hq => cases hq; exact ⟨g1, n1⟩
    | 2, hq => cases hq; exact ⟨g2, n2⟩
    | 3, hq => cases hq; exact ⟨g3, n3⟩
    | k + 4, hq => simp [bz_ty] at hq
  · exact va_Nw.of rfl (hts _ (List.mem_of_getElem? (i := 330) (by decide +kernel)))
  · exact va_Nw.of rfl (hts _ (List.mem_of_getElem? (i := 443) (by decide +kernel)))
  · exact va_Nw.of rfl (hts _ (List.mem_of_getElem? (i := 465) (by decide +kernel)))
  · exact va_Nw.of rfl (hts _ (List.mem_of_getElem? (i := 466) (by decide +kernel)))
  · exact va_Nw.of rfl (hts _ (List.mem_of_getElem? (i := 498) (by decide +kernel)))
  · exact va_AO.of o2
  · exact va_AO.of o3
  · exact vk_R.of (A := #[Value.ref b]) (hts _ (List.mem_of_getElem? (i := 510) (by decide +kernel))) (hE 0 (by decide))
  · exact vk_R.of (A := #[Value.ref b]) (hts _ (List.mem_of_getElem? (i := 511) (by decide +kernel))) (hE 1 (by decide))
  · exact vk_R.of (A := #[Value.ref b]) (hts _ (List.mem_of_getElem? (i := 512) (by decide +kernel))) (hE 2 (by decide))
  · exact vk_R.of (A := #[Value.ref b]) (hts _ (List.mem_of_getElem? (i := 513) (by decide +kernel))) (hE 3 (by decide))
  · exact vk_R.of (A := #[Value.ref b]) (hts _ (List.mem_of_getElem? (i := 514) (by decide +kernel))) (hE 4 (by decide))
  · exact vk_S.narrow hS hA
  · exact va_Zof (hts _ (List.mem_of_getElem? (i := 528) (by decide +kernel))) (hts _ (List.mem_of_getElem? (i := 33) (by decide +kernel))) (va_eqi (hs _ (List.mem_of_getElem? (i := 4) (by decide +kernel)))) (fun a h z => absurd (hA a z) (Nat.not_le.mpr h))
  · exact va_Zqof (hts _ (List.mem_of_getElem? (i := 544) (by decide +kernel))) (hts _ (List.mem_of_getElem? (i := 35) (by decide +kernel))) (hs _ (List.mem_of_getElem? (i := 5) (by decide +kernel))) (fun a h z => absurd (hA a z) (Nat.not_le.mpr h))
