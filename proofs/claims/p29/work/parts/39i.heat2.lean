/-! pass: a second of all motors -/
section HU
variable {σ τ : bz_W} {z q M N i cnt ck t sz nx : Nat} {r : Nat → Int32}
theorem draw_N (hI : IM r ck i) : ∃ d : Nat, drawR r i = nI d ∧ d ≤ 600 ∧ (turnR r i = 0 → d = 0) := by
  obtain ⟨p, p1, p2⟩ := peak_N hI
  obtain ⟨ra, rm, fa, li, ne, md, he, lo, sc, si, la, e0, e1, e2, e3, e4, e5, e6, e7, e8, e9, e10, b0, b1, b2, b3, b4, b5, b6, b7, b8, b9, b10, b11⟩ := hI
  unfold drawR turnR
  rw [p1, e1, e8, e0, e7]
  by_cases h2 : r (8 + 20 * i + 5) = 2
  · have hm : md = 2 := by
      rw [e5] at h2
      exact (nI_eq (b := 2) (by omega) (by omega)).mp h2
    obtain ⟨d, d1, d2⟩ := rampR_N p2 (show 1 ≤ rm by omega) (by omega) (b8.2 hm)
    rw [if_pos h2, if_pos h2]
    exact ⟨d, d1, by omega, fun q => absurd q (by decide)⟩
  · rw [if_neg h2, if_neg h2]
    by_cases h3 : r (8 + 20 * i + 5) = 3
    · rw [if_pos h3, if_pos h3]
      by_cases h7 : nI lo = 0
      · rw [if_pos h7]
        exact ⟨ra, rfl, by omega, fun q => absurd q (by decide)⟩
      · rw [if_neg h7]
        refine ⟨ra * 3 / 2, ?_, by omega, fun q => absurd q (by decide)⟩
        rw [show (3 : Int32) = nI 3 from rfl, pk_mul]
        exact nI_div (d := 2) (by omega) (by omega) (by omega)
    · rw [if_neg h3, if_neg h3]
      exact ⟨0, rfl, by omega, fun _ => rfl⟩
theorem turnR_c (r : Nat → Int32) (r' : Nat → Int32) (i : Nat) (h : r' (8 + 20 * i + 5) = r (8 + 20 * i + 5)) : turnR r' i = turnR r i := by
  unfold turnR
  rw [h]
theorem heat_one (h : NW z σ r cnt ck t sz nx) (hN : τ.2 (z + 173) 0 = z + 174) (hi : i < cnt) (ht : t + 1 < 2 ^ 30) (K : bz_W → Option (Int32 × bz_W)) : ∃ σ' r' t', (bd_ (f_X2_countSecond σ (z + 1 + 2 + 2 * i)) fun _ σ8 => bd_ (f_X2_exchangeHeat σ8 (z + 1 + 2 + 2 * i) (σ8.1 (σ8.2 z 0) 6)) fun _ σ11 => bd_ (f_X2_endSecond σ11 (z + 1 + 2 + 2 * i)) fun r13 σ14 => bd_ (f_X3_note σ14 (σ11.2 z 0) (z + 1 + 2 + 2 * i) r13) fun _ σ16 => K σ16) = K σ' ∧ f_X7_goesOn (bz_wb τ (z + 174) r) (z + 173) (nI i) = some (0, bz_wb τ (z + 174) r') ∧ Fr z σ σ' ∧ σ'.1 z 7 = σ.1 z 7 ∧ NW z σ' r' cnt ck t' sz nx ∧ t' ≤ t + 1 := by
  have hi8 : i < 8 := by have := h.2.2.2.2.1.1; omega
  obtain ⟨hz, hL, hnm, hS, hI, hs0, hs6⟩ := id h
  have hR := hS.2.2.2.2.2.1 i hi
  have hf := hI.2.2.2.2.2.1
  have hIM := hI.2.2.2.2.2.2.1 i hi
  have hq : σ.2 (z + 1 + 2 + 2 * i) 1 = z + 1 + 2 + 2 * i + 1 := by rw [(hL.2.2.2.1 i hi8).2]; omega
  -- the rows
  obtain ⟨T, eT⟩ : ∃ T, T = turnR r i := ⟨_, rfl⟩
  obtain ⟨r1, er1⟩ : ∃ r1, r1 = cntR r i := ⟨_, rfl⟩
  have a1 : ∀ y, y ≠ 8 + 20 * i + 16 → y ≠ 8 + 20 * i + 17 → r1 y = r y := fun y h1 h2 => by
    rw [er1]; unfold cntR
    rw [up_o _ _ h2, up_o _ _ h1]
  have hIM1 : IM r1 ck i := hIM.congr fun w hw => a1 _ (by omega) (by omega)
  have eT1 : turnR r1 i = T := by rw [eT]; exact turnR_c r r1 i (a1 _ (by omega) (by omega))
  obtain ⟨r2, er2⟩ : ∃ r2, r2 = exR r1 i T := ⟨_, rfl⟩
  have a2 : ∀ y, y ≠ 8 + 20 * i + 6 → y ≠ 8 + 20 * i + 12 → y ≠ 8 + 20 * i + 13 → r2 y = r1 y := fun y h1 h2 h3 => by
    rw [er2]; unfold exR
    rw [up_o _ _ h3, up_o _ _ h2, up_o _ _ h1]
  have eT2 : turnR r2 i = T := by rw [← eT1]; exact turnR_c r1 r2 i (a2 _ (by omega) (by omega) (by omega))
  obtain ⟨r3, er3⟩ : ∃ r3, r3 = upd r2 (8 + 20 * i + 10) (laR r2 i) := ⟨_, rfl⟩
  have a3 : ∀ y, y ≠ 8 + 20 * i + 10 → r3 y = r2 y := fun y h1 => by rw [er3, up_o _ _ h1]
  -- their values
  obtain ⟨d, d1, d2, d3⟩ := draw_N hIM1
  obtain ⟨rt, t1, t2⟩ := rate_N (t := T) hf
  obtain ⟨ra, rm, fa, li, ne, md, he, lo, sc, si, la, e0, e1, e2, e3, e4, e5, e6, e7, e8, e9, e10, b0, b1, b2, b3, b4, b5, b6, b7, b8, b9, b10, b11⟩ := id hIM
  have m2 : r (8 + 20 * i + 5) = 2 ↔ md = 2 := by rw [e5]; exact nI_eq (b := 2) (by omega) (by omega)
  have m3 : r (8 + 20 * i + 5) = 3 ↔ md = 3 := by rw [e5]; exact nI_eq (b := 3) (by omega) (by omega)
  have hT0 : T = 0 ↔ ¬ (md = 2 ∨ md = 3) := by
    rw [eT]
    unfold turnR
    by_cases q2 : md = 2
    · rw [if_pos (m2.mpr q2)]
      constructor
      · intro q; exact absurd q (by decide)
      · intro q; exact absurd (Or.inl q2) q
    · rw [if_neg (fun q => q2 (m2.mp q))]
      by_cases q3 : md = 3
      · rw [if_pos (m3.mpr q3)]
        constructor
        · intro q; exact absurd q (by decide)
        · intro q; exact absurd (Or.inr q3) q
      · rw [if_neg (fun q => q3 (m3.mp q))]
        constructor
        · intro _; omega
        · intro _; rfl
  obtain ⟨x, x1, x2⟩ : ∃ x : Nat, exX r1 i = nI x ∧ (x ≤ 72000 ∧ (¬ (md = 2 ∨ md = 3) → x = 0)) := by
    have hdd : d * d ≤ 600 * 600 := Nat.mul_le_mul d2 d2
    have ed : nI d * nI d / 10 = nI (d * d / 10) := by
      rw [pk_mul]
      exact nI_div (d := 10) (by omega) (by omega) (by omega)
    have hd0 : ¬ (md = 2 ∨ md = 3) → d * d / 10 = 0 := fun q => by
      have := d3 (by rw [eT1]; exact hT0.mpr q)
      subst this
      rfl
    unfold exX
    rw [d1, ed]
    by_cases h7 : r1 (8 + 20 * i + 7) = 0
    · rw [if_pos h7, Int32.mul_one]
      exact ⟨_, rfl, by omega, fun q => hd0 q⟩
    · rw [if_neg h7]
      refine ⟨d * d / 10 * 2, pk_mul _ 2, by omega, fun q => by rw [hd0 q]⟩
  have h6' : r1 (8 + 20 * i + 6) = nI he := by rw [a1 _ (by omega) (by omega), e6]
  have hh1 : he + x ≤ 200000 := by
    by_cases q : md = 2 ∨ md = 3
    · have := b11 q; omega
    · have := x2.2 q; omega
  have hmr : (he + x) * rt ≤ 200000 * 70 := Nat.mul_le_mul hh1 t2
  have hg2 : (he + x) * rt / 1000 ≤ he + x := by
    have : (he + x) * rt ≤ (he + x) * 1000 := Nat.mul_le_mul_left _ (by omega)
    omega
  have eG : exG r1 i T = nI ((he + x) * rt / 1000) := by
    unfold exG
    rw [h6', x1, nI_add, a1 3 (by omega) (by omega), t1, pk_mul]
    exact nI_div (d := 1000) (by omega) (by omega) (by omega)
  obtain ⟨he2, ehe2⟩ : ∃ he2, he2 = he + x - (he + x) * rt / 1000 := ⟨_, rfl⟩
  have hv : ∀ w, w < 11 → w ≠ 6 → w ≠ 10 → r3 (8 + 20 * i + w) = r (8 + 20 * i + w) := fun w h1 h2 h3 => by
    rw [a3 _ (by omega), a2 _ (by omega) (by omega) (by omega), a1 _ (by omega) (by omega)]
  have v6 : r3 (8 + 20 * i + 6) = nI he2 := by
    rw [a3 _ (by omega), er2]
    unfold exR
    rw [up_o _ _ (by omega), up_o _ _ (by omega), up_s, eG, h6', x1, nI_add, pk_sub2 hg2, ehe2]
  obtain ⟨la2, l1, l2⟩ : ∃ la2 : Nat, r3 (8 + 20 * i + 10) = nI la2 ∧ la2 ≤ 3 ∧ (¬ md = 3 → la2 = 0) := by
    rw [er3, up_s]
    unfold laR
    rw [a2 (8 + 20 * i + 5) (by omega) (by omega) (by omega), a1 (8 + 20 * i + 5) (by omega) (by omega)]
    by_cases q3 : md = 3
    · rw [if_pos (m3.mpr q3)]
      by_cases h7 : r2 (8 + 20 * i + 7) = 0
      · rw [if_pos h7]
        exact ⟨0, rfl, by omega, fun q => absurd q3 q⟩
      · rw [if_neg h7, a2 (8 + 20 * i + 10) (by omega) (by omega) (by omega), a1 (8 + 20 * i + 10) (by omega) (by omega), e10, nI_1]
        have := b10.2 q3
        exact ⟨la + 1, rfl, by omega, fun q => absurd q3 q⟩
    · rw [if_neg (fun q => q3 (m3.mp q))]
      exact ⟨0, rfl, by omega, fun _ => rfl⟩
  have v0 : r3 (8 + 20 * i) = nI ra := (hv 0 (by omega) (by omega) (by omega)).trans e0
  have v1 : r3 (8 + 20 * i + 1) = nI rm := (hv 1 (by omega) (by omega) (by omega)).trans e1
  have v2 : r3 (8 + 20 * i + 2) = nI fa := (hv 2 (by omega) (by omega) (by omega)).trans e2
  have v3 : r3 (8 + 20 * i + 3) = nI li := (hv 3 (by omega) (by omega) (by omega)).trans e3
  have v4 : r3 (8 + 20 * i + 4) = nI ne := (hv 4 (by omega) (by omega) (by omega)).trans e4
  have v5 : r3 (8 + 20 * i + 5) = nI md := (hv 5 (by omega) (by omega) (by omega)).trans e5
  have v7 : r3 (8 + 20 * i + 7) = nI lo := (hv 7 (by omega) (by omega) (by omega)).trans e7
  have v8 : r3 (8 + 20 * i + 8) = nI sc := (hv 8 (by omega) (by omega) (by omega)).trans e8
  have v9 : r3 (8 + 20 * i + 9) = nI si := (hv 9 (by omega) (by omega) (by omega)).trans e9
  have hhe2 : he2 ≤ 200000 := by omega
  have vh : r3 (8 + 20 * i + 6) ≤ r3 (8 + 20 * i + 3) ↔ he2 ≤ li := by rw [v6, v3]; exact nI_leI (by omega) (by omega)
  have vm3 : r3 (8 + 20 * i + 5) = 3 ↔ md = 3 := by rw [v5]; exact nI_eq (b := 3) (by omega) (by omega)
  have vs : r3 (8 + 20 * i + 1) ≤ r3 (8 + 20 * i + 8) + 1 ↔ rm ≤ sc + 1 := by rw [v1, v8, nI_1]; exact nI_leI (by omega) (by omega)
  have vl : r3 (8 + 20 * i + 10) < 3 ↔ la2 < 3 := by rw [l1]; exact nI_ltI (b := 3) (by omega) (by omega)
  have hIMe : IM (endR r3 i T) ck i := by
    unfold endR
    by_cases q0 : T = 0
    · rw [if_pos q0]
      have := hT0.mp q0
      exact ⟨ra, rm, fa, li, ne, md, he2, lo, sc, si, la2, v0, v1, v2, v3, v4, v5, v6, v7, v8, v9, l1, by omega⟩
    · rw [if_neg q0]
      have hmm : md = 2 ∨ md = 3 := Classical.byContradiction fun q => q0 (hT0.mpr q)
      have trp : ∀ w : Int32, IM (tripR r3 i w) ck i := fun w => by
        refine ⟨ra, rm, fa, li, ne, 4, he2, lo, sc, si, la2, ?_, ?_, ?_, ?_, ?_, ?_, ?_, ?_, ?_, ?_, ?_, by omega⟩
        all_goals first | (rw [tripR_o (by omega) (by omega) (by omega)]; assumption) | (unfold tripR; rw [up_o _ _ (by omega), up_o _ _ (by omega), up_s]; rfl)
      by_cases qh : he2 ≤ li
      · rw [if_pos (vh.mpr qh)]
        by_cases ql : la2 < 3
        · rw [if_pos (vl.mpr ql)]
          by_cases q3 : md = 3
          · rw [if_pos (vm3.mpr q3)]
            exact ⟨ra, rm, fa, li, ne, md, he2, lo, sc, si, la2, v0, v1, v2, v3, v4, v5, v6, v7, v8, v9, l1, by omega⟩
          · rw [if_neg (fun q => q3 (vm3.mp q))]
            have hsr := b8.2 (by omega)
            have hl0 := l2.2 q3
            by_cases qs : rm ≤ sc + 1
            · rw [if_pos (vs.mpr qs)]
              refine ⟨ra, rm, fa, li, ne, 3, he2, lo, sc + 1, si, la2, ?_, ?_, ?_, ?_, ?_, ?_, ?_, ?_, ?_, ?_, ?_, by omega⟩
              all_goals first | (rw [up_o _ _ (by omega), up_o _ _ (by omega)]; assumption) | (rw [up_s]; rfl) | (rw [up_o _ _ (by omega), up_s, v8, nI_1])
            · rw [if_neg (fun q => qs (vs.mp q))]
              refine ⟨ra, rm, fa, li, ne, md, he2, lo, sc + 1, si, la2, ?_, ?_, ?_, ?_, ?_, ?_, ?_, ?_, ?_, ?_, ?_, by omega⟩
              all_goals first | (rw [up_o _ _ (by omega)]; assumption) | (rw [up_s, v8, nI_1])
        · rw [if_neg (fun q => ql (vl.mp q))]
          exact trp 4
      · rw [if_neg (fun q => qh (vh.mp q))]
        exact trp 2
  have eo : ∀ y, (y < 8 + 20 * i ∨ 8 + 20 * i + 20 ≤ y) → endR r3 i T y = r y := fun y hy => by
    have b : r3 y = r y := by rw [a3 _ (by omega), a2 _ (by omega) (by omega) (by omega), a1 _ (by omega) (by omega)]
    unfold endR
    split
    · exact b
    · split
      · split
        · split
          · exact b
          · split
            · rw [up_o _ _ (by omega), up_o _ _ (by omega)]; exact b
            · rw [up_o _ _ (by omega)]; exact b
        · rw [tripR_o (by omega) (by omega) (by omega)]; exact b
      · rw [tripR_o (by omega) (by omega) (by omega)]; exact b
  -- the class
  obtain ⟨s1, f1, f2, f3, f4, f5⟩ := c_cnt hq hR
  rw [← er1] at f5
  have hq1 : s1.2 (z + 1 + 2 + 2 * i) 1 = z + 1 + 2 + 2 * i + 1 := by rw [f2]; exact hq
  have hfan : s1.1 (s1.2 z 0) 6 = r1 3 := by rw [f2, hs0, f3 _ (by omega) (by omega), a1 3 (by omega) (by omega)]; exact hS.2.2.1.2.1.symm
  obtain ⟨s2, g1, g2, g3, g4, g5⟩ := c_exch hq1 f5 hIM1 (by rw [a1 3 (by omega) (by omega)]; exact hf)
  rw [eT1, ← er2] at g5
  obtain ⟨s3, k1, k2, k3, k4, k5⟩ := c_end (by rw [g2]; exact hq1) g5
  rw [← er3, eT2] at k1 k5
  obtain ⟨n1, n2, n3⟩ := h.motor hi (σ' := s3) (k2.trans (g2.trans f2)) (fun x q1 q2 => by rw [k3 x q1 q2, g3 x q1 q2, f3 x q1 q2]) (by rw [k4, g4, f4]) eo k5 hIMe
  -- the model
  have h6 : r3 6 = nI t := by rw [a3 _ (by omega), a2 _ (by omega) (by omega) (by omega), a1 _ (by omega) (by omega)]; exact hS.2.2.2.1.2
  have hm : f_X7_goesOn (bz_wb τ (z + 174) r) (z + 173) (nI i) = some (0, bz_wb τ (z + 174) (finR r3 i T)) := by
    rw [go_1 hN hi8, ← er1, ← eT, go_2 hN hi8 hIM1.ramp0, ← er2, go_3 hN hi8, ← er3]
    refine go_4 hN hi8 h6 (by omega) ?_ l1 l2.1 v1 v8 b1.2 ?_
    · by_cases q0 : T = 0
      · exact Or.inl q0
      · right
        rcases (Classical.byContradiction fun q => q0 (hT0.mpr q) : md = 2 ∨ md = 3) with q | q
        · left; rw [v5, q]; rfl
        · right; exact vm3.mpr q
    · intro q
      rw [v5] at q
      exact b8.2 ((nI_eq (b := 2) (by omega) (by omega)).mp q)
  rw [f1, bd_n, hfan, g1, bd_n, k1, bd_n, g2, f2, hs0, hm]
  unfold finR
  by_cases hc0 : endC r3 i T = 0
  · rw [if_pos hc0]
    unfold f_X3_note
    rw [if_pos hc0, bd_n]
    exact ⟨s3, _, t, rfl, rfl, n1, n2, n3, by omega⟩
  · rw [if_neg hc0]
    obtain ⟨s4, o1, o2, o3, o4, -⟩ := n3.noted hi8 ht hc0
    rw [o1, bd_n]
    exact ⟨s4, _, t + 1, rfl, rfl, n1.trans o2, o3.trans n2, o4, Nat.le_refl _⟩
theorem heat_cL : ∀ fuel i (σ : bz_W) (r : Nat → Int32) (t : Nat), NW z σ r cnt ck t sz nx → τ.2 (z + 173) 0 = z + 174 → i ≤ cnt → cnt - i < fuel → t + (cnt - i) < 2 ^ 30 → ∃ σ' r' t', f_X6_heatMotors_L2 z (fun (σ18 : bz_W) => some (0, σ18)) fuel (nI i) σ = some (0, σ') ∧ (∀ (x1 x2 x3 : Int32) (k : bz_W → Option (Int32 × bz_W)), f_X7_pass_L40 (z + 173) x1 x2 x3 k fuel (nI i) (bz_wb τ (z + 174) r) = k (bz_wb τ (z + 174) r')) ∧ Fr z σ σ' ∧ σ'.1 z 7 = σ.1 z 7 ∧ NW z σ' r' cnt ck t' sz nx ∧ t' ≤ t + (cnt - i) := by
  intro fuel
  induction fuel with
  | zero => intro i σ r t _ _ h1 h2; omega
  | succ f ih =>
    intro i σ r t h hN h1 h2 ht
    have hc := h.2.2.2.2.1.1
    by_cases e : i = cnt
    · subst e
      refine ⟨σ, r, t, ?_, fun x1 x2 x3 k => ?_, Fr.refl z σ, rfl, h, by omega⟩
      · rw [f_X6_heatMotors_L2, h.2.2.2.2.2.1, h.2.2.2.1.1.1, if_pos (nI_le (Nat.le_refl _) (by omega))]
      · rw [f_X7_pass_L40, wb_2, hN, wb_s, h.2.2.2.1.1.2, if_pos (nI_le (Nat.le_refl _) (by omega))]
    · have hi : i < cnt := by omega
      obtain ⟨σ1, r1, t1, g1, g2, g3, g4, g5, g6⟩ := heat_one h hN hi (by omega) (fun σ16 => lt_ (nI i + 1) fun x17 => f_X6_heatMotors_L2 z (fun (σ18 : bz_W) => some (0, σ18)) f x17 σ16)
      obtain ⟨σ2, r2, t2, k1, k2, k3, k4, k5, k6⟩ := ih (i + 1) σ1 r1 t1 g5 hN (by omega) (by omega) (by omega)
      refine ⟨σ2, r2, t2, ?_, fun x1 x2 x3 k => ?_, g3.trans k3, k4.trans g4, k5, by omega⟩
      · rw [f_X6_heatMotors_L2, h.2.2.2.2.2.1, h.2.2.2.1.1.1, if_neg (nI_ge (by omega) (by omega)), in_nI (by omega) (by omega), ck_n, nI_clamp (by omega), h.2.1.1, (h.2.1.2.2.2.1 i (by omega)).1]
        refine Eq.trans g1 ?_
        rw [lt_n, nI_1]
        exact k1
      · rw [f_X7_pass_L40, wb_2, hN, wb_s, h.2.2.2.1.1.2, if_neg (nI_ge (by omega) (by omega)), g2, bd_n, lt_n, nI_1]
        exact k2 x1 x2 x3 k
end HU
