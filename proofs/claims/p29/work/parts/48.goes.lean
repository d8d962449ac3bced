/-! one motor's second on the row -/
def r3R (r : Nat → Int32) (i : Nat) : Nat → Int32 := upd (exR (cntR r i) i (turnR r i)) (8 + 20 * i + 10) (laR (exR (cntR r i) i (turnR r i)) i)
def goR (r : Nat → Int32) (i : Nat) : Nat → Int32 := finR (r3R r i) i (turnR r i)
set_option maxHeartbeats 4000000 in
theorem go_pure {r : Nat → Int32} {ck i : Nat} (hi8 : i < 8) (hf : r 3 = 0 ∨ r 3 = 1) (hIM : IM r ck i) : IM (endR (r3R r i) i (turnR r i)) ck i ∧ (∀ y, (y < 8 + 20 * i ∨ 8 + 20 * i + 20 ≤ y) → endR (r3R r i) i (turnR r i) y = r y) ∧ ∀ {τ : bz_W} {M N t : Nat}, τ.2 M 0 = N → r 6 = nI t → t < 2 ^ 30 → f_X7_goesOn (bz_wb τ N r) M (nI i) = some (0, bz_wb τ N (goR r i)) := by
  -- the rows
  obtain ⟨T, eT⟩ : ∃ T, T = turnR r i := ⟨_, rfl⟩
  obtain ⟨r1, er1⟩ : ∃ r1, r1 = cntR r i := ⟨_, rfl⟩
  have a1 : ∀ y, y ≠ 8 + 20 * i + 16 → y ≠ 8 + 20 * i + 17 → r1 y = r y := fun y h1 h2 => by
    rw [er1]; unfold cntR
    rw [up_o _ _ h2, up_o _ _ h1]
  have hIM1 : IM r1 ck i := hIM.congr fun w hw => a1 _ (by omega) (by omega)
  have eT1 : turnR r1 i = T := by rw [eT]; exact turnR_c r r1 i (a1 _ (by omega) (by omega))
  obtain ⟨r2, er2⟩ : ∃ r2, r2 = exR r1 i T := ⟨_, rfl⟩
  have a2 : ∀ y, y ≠ 8 + 20 * i + 6 → y ≠ 8 + 20 * i + 12 → y ≠ 8 + 20 * i + 13 → r2 y = r1 y := fun y h1 h2 h3 => by
    rw [er2]; unfold exR
    rw [up_o _ _ h3, up_o _ _ h2, up_o _ _ h1]
  have eT2 : turnR r2 i = T := by rw [← eT1]; exact turnR_c r1 r2 i (a2 _ (by omega) (by omega) (by omega))
  obtain ⟨r3, er3⟩ : ∃ r3, r3 = upd r2 (8 + 20 * i + 10) (laR r2 i) := ⟨_, rfl⟩
  have a3 : ∀ y, y ≠ 8 + 20 * i + 10 → r3 y = r2 y := fun y h1 => by rw [er3, up_o _ _ h1]
  -- their values
  obtain ⟨d, d1, d2, d3⟩ := draw_N hIM1
  obtain ⟨rt, t1, t2⟩ := rate_N (t := T) hf
  obtain ⟨ra, rm, fa, li, ne, md, he, lo, sc, si, la, e0, e1, e2, e3, e4, e5, e6, e7, e8, e9, e10, b0, b1, b2, b3, b4, b5, b6, b7, b8, b9, b10, b11⟩ := id hIM
  have m2 : r (8 + 20 * i + 5) = 2 ↔ md = 2 := by rw [e5]; exact nI_eq (b := 2) (by omega) (by omega)
  have m3 : r (8 + 20 * i + 5) = 3 ↔ md = 3 := by rw [e5]; exact nI_eq (b := 3) (by omega) (by omega)
  have hT0 : T = 0 ↔ ¬ (md = 2 ∨ md = 3) := by
    rw [eT]
    unfold turnR
    by_cases q2 : md = 2
    · rw [if_pos (m2.mpr q2)]
      constructor
      · intro q; exact absurd q (by decide)
      · intro q; exact absurd (Or.inl q2) q
    · rw [if_neg (fun q => q2 (m2.mp q))]
      by_cases q3 : md = 3
      · rw [if_pos (m3.mpr q3)]
        constructor
        · intro q; exact absurd q (by decide)
        · intro q; exact absurd (Or.inr q3) q
      · rw [if_neg (fun q => q3 (m3.mp q))]
        constructor
        · intro _; omega
        · intro _; rfl
  obtain ⟨x, x1, x2⟩ : ∃ x : Nat, exX r1 i = nI x ∧ (x ≤ 72000 ∧ (¬ (md = 2 ∨ md = 3) → x = 0)) := by
    have hdd : d * d ≤ 600 * 600 := Nat.mul_le_mul d2 d2
    have ed : nI d * nI d / 10 = nI (d * d / 10) := by
      rw [pk_mul]
      exact nI_div (d := 10) (by omega) (by omega) (by omega)
    have hd0 : ¬ (md = 2 ∨ md = 3) → d * d / 10 = 0 := fun q => by
      have := d3 (by rw [eT1]; exact hT0.mpr q)
      subst this
      rfl
    unfold exX
    rw [d1, ed]
    by_cases h7 : r1 (8 + 20 * i + 7) = 0
    · rw [if_pos h7, Int32.mul_one]
      exact ⟨_, rfl, by omega, fun q => hd0 q⟩
    · rw [if_neg h7]
      refine ⟨d * d / 10 * 2, pk_mul _ 2, by omega, fun q => by rw [hd0 q]⟩
  have h6' : r1 (8 + 20 * i + 6) = nI he := by rw [a1 _ (by omega) (by omega), e6]
  have hh1 : he + x ≤ 200000 := by
    by_cases q : md = 2 ∨ md = 3
    · have := b11 q; omega
    · have := x2.2 q; omega
  have hmr : (he + x) * rt ≤ 200000 * 70 := Nat.mul_le_mul hh1 t2
  have hg2 : (he + x) * rt / 1000 ≤ he + x := by
    have : (he + x) * rt ≤ (he + x) * 1000 := Nat.mul_le_mul_left _ (by omega)
    omega
  have eG : exG r1 i T = nI ((he + x) * rt / 1000) := by
    unfold exG
    rw [h6', x1, nI_add, a1 3 (by omega) (by omega), t1, pk_mul]
    exact nI_div (d := 1000) (by omega) (by omega) (by omega)
  obtain ⟨he2, ehe2⟩ : ∃ he2, he2 = he + x - (he + x) * rt / 1000 := ⟨_, rfl⟩
  have hv : ∀ w, w < 11 → w ≠ 6 → w ≠ 10 → r3 (8 + 20 * i + w) = r (8 + 20 * i + w) := fun w h1 h2 h3 => by
    rw [a3 _ (by omega), a2 _ (by omega) (by omega) (by omega), a1 _ (by omega) (by omega)]
  have v6 : r3 (8 + 20 * i + 6) = nI he2 := by
    rw [a3 _ (by omega), er2]
    unfold exR
    rw [up_o _ _ (by omega), up_o _ _ (by omega), up_s, eG, h6', x1, nI_add, pk_sub2 hg2, ehe2]
  obtain ⟨la2, l1, l2⟩ : ∃ la2 : Nat, r3 (8 + 20 * i + 10) = nI la2 ∧ la2 ≤ 3 ∧ (¬ md = 3 → la2 = 0) := by
    rw [er3, up_s]
    unfold laR
    rw [a2 (8 + 20 * i + 5) (by omega) (by omega) (by omega), a1 (8 + 20 * i + 5) (by omega) (by omega)]
    by_cases q3 : md = 3
    · rw [if_pos (m3.mpr q3)]
      by_cases h7 : r2 (8 + 20 * i + 7) = 0
      · rw [if_pos h7]
        exact ⟨0, rfl, by omega, fun q => absurd q3 q⟩
      · rw [if_neg h7, a2 (8 + 20 * i + 10) (by omega) (by omega) (by omega), a1 (8 + 20 * i + 10) (by omega) (by omega), e10, nI_1]
        have := b10.2 q3
        exact ⟨la + 1, rfl, by omega, fun q => absurd q3 q⟩
    · rw [if_neg (fun q => q3 (m3.mp q))]
      exact ⟨0, rfl, by omega, fun _ => rfl⟩
  have v0 : r3 (8 + 20 * i) = nI ra := (hv 0 (by omega) (by omega) (by omega)).trans e0
  have v1 : r3 (8 + 20 * i + 1) = nI rm := (hv 1 (by omega) (by omega) (by omega)).trans e1
  have v2 : r3 (8 + 20 * i + 2) = nI fa := (hv 2 (by omega) (by omega) (by omega)).trans e2
  have v3 : r3 (8 + 20 * i + 3) = nI li := (hv 3 (by omega) (by omega) (by omega)).trans e3
  have v4 : r3 (8 + 20 * i + 4) = nI ne := (hv 4 (by omega) (by omega) (by omega)).trans e4
  have v5 : r3 (8 + 20 * i + 5) = nI md := (hv 5 (by omega) (by omega) (by omega)).trans e5
  have v7 : r3 (8 + 20 * i + 7) = nI lo := (hv 7 (by omega) (by omega) (by omega)).trans e7
  have v8 : r3 (8 + 20 * i + 8) = nI sc := (hv 8 (by omega) (by omega) (by omega)).trans e8
  have v9 : r3 (8 + 20 * i + 9) = nI si := (hv 9 (by omega) (by omega) (by omega)).trans e9
  have hhe2 : he2 ≤ 200000 := by omega
  have vh : r3 (8 + 20 * i + 6) ≤ r3 (8 + 20 * i + 3) ↔ he2 ≤ li := by rw [v6, v3]; exact nI_leI (by omega) (by omega)
  have vm3 : r3 (8 + 20 * i + 5) = 3 ↔ md = 3 := by rw [v5]; exact nI_eq (b := 3) (by omega) (by omega)
  have vs : r3 (8 + 20 * i + 1) ≤ r3 (8 + 20 * i + 8) + 1 ↔ rm ≤ sc + 1 := by rw [v1, v8, nI_1]; exact nI_leI (by omega) (by omega)
  have vl : r3 (8 + 20 * i + 10) < 3 ↔ la2 < 3 := by rw [l1]; exact nI_ltI (b := 3) (by omega) (by omega)
  have hIMe : IM (endR r3 i T) ck i := by
    unfold endR
    by_cases q0 : T = 0
    · rw [if_pos q0]
      have := hT0.mp q0
      exact ⟨ra, rm, fa, li, ne, md, he2, lo, sc, si, la2, v0, v1, v2, v3, v4, v5, v6, v7, v8, v9, l1, by omega⟩
    · rw [if_neg q0]
      have hmm : md = 2 ∨ md = 3 := Classical.byContradiction fun q => q0 (hT0.mpr q)
      have trp : ∀ w : Int32, IM (tripR r3 i w) ck i := fun w => by
        refine ⟨ra, rm, fa, li, ne, 4, he2, lo, sc, si, la2, ?_, ?_, ?_, ?_, ?_, ?_, ?_, ?_, ?_, ?_, ?_, by omega⟩
        all_goals first | (rw [tripR_o (by omega) (by omega) (by omega)]; assumption) | (unfold tripR; rw [up_o _ _ (by omega), up_o _ _ (by omega), up_s]; rfl)
      by_cases qh : he2 ≤ li
      · rw [if_pos (vh.mpr qh)]
        by_cases ql : la2 < 3
        · rw [if_pos (vl.mpr ql)]
          by_cases q3 : md = 3
          · rw [if_pos (vm3.mpr q3)]
            exact ⟨ra, rm, fa, li, ne, md, he2, lo, sc, si, la2, v0, v1, v2, v3, v4, v5, v6, v7, v8, v9, l1, by omega⟩
          · rw [if_neg (fun q => q3 (vm3.mp q))]
            have hsr := b8.2 (by omega)
            have hl0 := l2.2 q3
            by_cases qs : rm ≤ sc + 1
            · rw [if_pos (vs.mpr qs)]
              refine ⟨ra, rm, fa, li, ne, 3, he2, lo, sc + 1, si, la2, ?_, ?_, ?_, ?_, ?_, ?_, ?_, ?_, ?_, ?_, ?_, by omega⟩
              all_goals first | (rw [up_o _ _ (by omega), up_o _ _ (by omega)]; assumption) | (rw [up_s]; rfl) | (rw [up_o _ _ (by omega), up_s, v8, nI_1])
            · rw [if_neg (fun q => qs (vs.mp q))]
              refine ⟨ra, rm, fa, li, ne, md, he2, lo, sc + 1, si, la2, ?_, ?_, ?_, ?_, ?_, ?_, ?_, ?_, ?_, ?_, ?_, by omega⟩
              all_goals first | (rw [up_o _ _ (by omega)]; assumption) | (rw [up_s, v8, nI_1])
        · rw [if_neg (fun q => ql (vl.mp q))]
          exact trp 4
      · rw [if_neg (fun q => qh (vh.mp q))]
        exact trp 2
  have eo : ∀ y, (y < 8 + 20 * i ∨ 8 + 20 * i + 20 ≤ y) → endR r3 i T y = r y := fun y hy => by
    have b : r3 y = r y := by rw [a3 _ (by omega), a2 _ (by omega) (by omega) (by omega), a1 _ (by omega) (by omega)]
    unfold endR
    split
    · exact b
    · split
      · split
        · split
          · exact b
          · split
            · rw [up_o _ _ (by omega), up_o _ _ (by omega)]; exact b
            · rw [up_o _ _ (by omega)]; exact b
        · rw [tripR_o (by omega) (by omega) (by omega)]; exact b
      · rw [tripR_o (by omega) (by omega) (by omega)]; exact b
  have e3R : r3R r i = r3 := by rw [er3, er2, er1, eT]; rfl
  refine ⟨by rw [e3R, ← eT]; exact hIMe, by rw [e3R, ← eT]; exact eo, ?_⟩
  intro τ M N t hN h6 ht
  have h6 : r3 6 = nI t := by rw [a3 _ (by omega), a2 _ (by omega) (by omega) (by omega), a1 _ (by omega) (by omega)]; exact h6
  rw [go_1 hN hi8, ← er1, ← eT, go_2 hN hi8 hIM1.ramp0, ← er2, go_3 hN hi8, ← er3, goR, e3R, ← eT]
  exact (by
    refine go_4 hN hi8 h6 (by omega) ?_ l1 l2.1 v1 v8 b1.2 ?_
    · by_cases q0 : T = 0
      · exact Or.inl q0
      · right
        rcases (Classical.byContradiction fun q => q0 (hT0.mpr q) : md = 2 ∨ md = 3) with q | q
        · left; rw [v5, q]; rfl
        · right; exact vm3.mpr q
    · intro q
      rw [v5] at q
      exact b8.2 ((nI_eq (b := 2) (by omega) (by omega)).mp q))
section GO
variable {r : Nat → Int32} {ck i cnt t : Nat}
theorem r3R_o {y : Nat} (h6 : y ≠ 8 + 20 * i + 6) (h10 : y ≠ 8 + 20 * i + 10) (h12 : y ≠ 8 + 20 * i + 12) (h13 : y ≠ 8 + 20 * i + 13) (h16 : y ≠ 8 + 20 * i + 16) (h17 : y ≠ 8 + 20 * i + 17) : r3R r i y = r y := by
  unfold r3R exR cntR
  rw [up_o _ _ h10, up_o _ _ h13, up_o _ _ h12, up_o _ _ h6, up_o _ _ h17, up_o _ _ h16]
theorem endR_o {T : Int32} {y : Nat} (h5 : y ≠ 8 + 20 * i + 5) (h8 : y ≠ 8 + 20 * i + 8) (h11 : y ≠ 8 + 20 * i + 11) (h15 : y ≠ 8 + 20 * i + 15) : endR r i T y = r y := by
  unfold endR
  split
  · rfl
  · split
    · split
      · split
        · rfl
        · split
          · rw [up_o _ _ h5, up_o _ _ h8]
          · rw [up_o _ _ h8]
      · exact tripR_o h5 h11 h15
    · exact tripR_o h5 h11 h15
theorem finR_o {T : Int32} {y : Nat} (h6 : y ≠ 6) (h : y < 216 ∨ 246 ≤ y) : finR r i T y = endR r i T y := by
  unfold finR
  split
  · rfl
  · exact noteR_o h6 h
theorem goR_o {y : Nat} (h6 : y ≠ 6) (h : y < 216 ∨ 246 ≤ y) (hy : ∀ w, w < 20 → w ≠ 0 → w ≠ 14 → w ≠ 18 → y ≠ 8 + 20 * i + w) : goR r i y = r y := by
  unfold goR
  rw [finR_o h6 h, endR_o (hy 5 (by omega) (by omega) (by omega) (by omega)) (hy 8 (by omega) (by omega) (by omega) (by omega)) (hy 11 (by omega) (by omega) (by omega) (by omega)) (hy 15 (by omega) (by omega) (by omega) (by omega)), r3R_o (hy 6 (by omega) (by omega) (by omega) (by omega)) (hy 10 (by omega) (by omega) (by omega) (by omega)) (hy 12 (by omega) (by omega) (by omega) (by omega)) (hy 13 (by omega) (by omega) (by omega) (by omega)) (hy 16 (by omega) (by omega) (by omega) (by omega)) (hy 17 (by omega) (by omega) (by omega) (by omega))]
/-- the mode behind a second: 2 only where it was 2 -/
theorem end5 {T : Int32} : endR r i T (8 + 20 * i + 5) = r (8 + 20 * i + 5) ∨ endR r i T (8 + 20 * i + 5) = 3 ∨ (¬ T = 0 ∧ ∃ w : Int32, (w = 2 ∨ w = 4) ∧ endR r i T = tripR r i w) := by
  unfold endR
  by_cases h0 : T = 0
  · rw [if_pos h0]; exact Or.inl rfl
  · rw [if_neg h0]
    split
    · split
      · split
        · exact Or.inl rfl
        · split
          · exact Or.inr (Or.inl (up_s _ _ _))
          · exact Or.inl (up_o _ _ (by omega))
      · exact Or.inr (Or.inr ⟨h0, 4, Or.inr rfl, rfl⟩)
    · exact Or.inr (Or.inr ⟨h0, 2, Or.inl rfl, rfl⟩)
theorem trip5 (w : Int32) : tripR r i w (8 + 20 * i + 5) = 4 := by
  unfold tripR
  rw [up_o _ _ (by omega), up_o _ _ (by omega), up_s]
/-- as MI, where a start of this second may be ahead of its second -/
def MS (r : Nat → Int32) (ck i : Nat) : Prop := r (8 + 20 * i + 12) = r (8 + 20 * i + 13) + r (8 + 20 * i + 6) ∧ (r (8 + 20 * i + 5) = 2 → r (8 + 20 * i + 7) = 0) ∧ (r (8 + 20 * i + 5) = 4 → r (8 + 20 * i + 11) = 2 ∨ r (8 + 20 * i + 11) = 4) ∧ ∃ s t : Nat, r (8 + 20 * i + 14) = nI s ∧ r (8 + 20 * i + 16) = nI t ∧ s ≤ t + (if r (8 + 20 * i + 5) = 2 then 1 else 0) ∧ t ≤ ck
theorem MI.ms (h : MI r ck i) : MS r ck i := by
  obtain ⟨a, b, c, s, t, d, e, f, g⟩ := h
  exact ⟨a, b, c, s, t, d, e, by omega, g⟩
theorem ring1 (a b x g : Int32) : (a + b) + x = (a + g) + (b + x - g) := by
  rw [Int32.add_assoc a g, Int32.add_comm g, Int32.sub_add_cancel, Int32.add_assoc]
theorem MS.go (h : MS r ck i) : MI (endR (r3R r i) i (turnR r i)) (ck + 1) i := by
  obtain ⟨a, b, c, s, t, d, e, f, g⟩ := h
  obtain ⟨q, eq⟩ : ∃ q, q = r3R r i := ⟨_, rfl⟩
  have q5 : q (8 + 20 * i + 5) = r (8 + 20 * i + 5) := by rw [eq]; exact r3R_o (by omega) (by omega) (by omega) (by omega) (by omega) (by omega)
  have q7 : q (8 + 20 * i + 7) = r (8 + 20 * i + 7) := by rw [eq]; exact r3R_o (by omega) (by omega) (by omega) (by omega) (by omega) (by omega)
  have q11 : q (8 + 20 * i + 11) = r (8 + 20 * i + 11) := by rw [eq]; exact r3R_o (by omega) (by omega) (by omega) (by omega) (by omega) (by omega)
  have q14 : q (8 + 20 * i + 14) = r (8 + 20 * i + 14) := by rw [eq]; exact r3R_o (by omega) (by omega) (by omega) (by omega) (by omega) (by omega)
  have q16 : q (8 + 20 * i + 16) = r (8 + 20 * i + 16) + (if turnR r i = 0 then 0 else 1) := by
    rw [eq]
    unfold r3R exR cntR
    rw [up_o _ _ (by omega), up_o _ _ (by omega), up_o _ _ (by omega), up_o _ _ (by omega), up_o _ _ (by omega), up_s]
  have qa : q (8 + 20 * i + 12) = q (8 + 20 * i + 13) + q (8 + 20 * i + 6) := by
    obtain ⟨r1, e1⟩ : ∃ r1, r1 = cntR r i := ⟨_, rfl⟩
    have a1 : ∀ y, y ≠ 8 + 20 * i + 16 → y ≠ 8 + 20 * i + 17 → r1 y = r y := fun y h1 h2 => by
      rw [e1]; unfold cntR
      rw [up_o _ _ h2, up_o _ _ h1]
    rw [eq]
    unfold r3R
    rw [← e1, up_o _ _ (by omega), up_o _ _ (by omega), up_o _ _ (by omega)]
    unfold exR
    rw [up_o _ _ (show 8 + 20 * i + 12 ≠ 8 + 20 * i + 13 by omega), up_s, up_s, up_o _ _ (show 8 + 20 * i + 6 ≠ 8 + 20 * i + 13 by omega), up_o _ _ (show 8 + 20 * i + 6 ≠ 8 + 20 * i + 12 by omega), up_s, a1 (8 + 20 * i + 12) (by omega) (by omega), a1 (8 + 20 * i + 13) (by omega) (by omega), a1 (8 + 20 * i + 6) (by omega) (by omega), a]
    exact ring1 _ _ _ _
  have hst : ∃ s t : Nat, q (8 + 20 * i + 14) = nI s ∧ q (8 + 20 * i + 16) = nI t ∧ s ≤ t ∧ t ≤ ck + 1 := by
    by_cases h2 : r (8 + 20 * i + 5) = 2
    · rw [if_pos h2] at f
      refine ⟨s, t + 1, q14.trans d, ?_, by omega, by omega⟩
      rw [q16, e]
      unfold turnR
      rw [if_pos h2, if_neg (by decide), nI_1]
    · rw [if_neg h2] at f
      by_cases hT : turnR r i = 0
      · exact ⟨s, t, q14.trans d, by rw [q16, e, if_pos hT, Int32.add_zero], by omega, by omega⟩
      · exact ⟨s, t + 1, q14.trans d, by rw [q16, e, if_neg hT, nI_1], by omega, by omega⟩
  rw [← eq]
  rcases end5 (r := q) (i := i) (T := turnR r i) with h5 | h5 | ⟨hT, w, hw, ew⟩
  · by_cases htr : ∃ w : Int32, (w = 2 ∨ w = 4) ∧ endR q i (turnR r i) = tripR q i w
    · obtain ⟨w, hw, ew⟩ := htr
      rw [ew]
      exact MI.tripw qa hst hw
    · -- no trip: these fields stay
      have o : ∀ y, y ≠ 8 + 20 * i + 5 → y ≠ 8 + 20 * i + 8 → endR q i (turnR r i) y = q y := by
        intro y g1 g2
        unfold endR at htr ⊢
        split at htr
        · rename_i h0; rw [if_pos h0]
        · rename_i h0
          rw [if_neg h0]
          split at htr
          · rename_i h1
            rw [if_pos h1]
            split at htr
            · rename_i h3
              rw [if_pos h3]
              split
              · rfl
              · split
                · rw [up_o _ _ g1, up_o _ _ g2]
                · rw [up_o _ _ g2]
            · exact absurd ⟨4, Or.inr rfl, rfl⟩ htr
          · exact absurd ⟨2, Or.inl rfl, rfl⟩ htr
      unfold MI
      rw [h5, o _ (by omega) (by omega), o _ (by omega) (by omega), o _ (by omega) (by omega), o _ (by omega) (by omega), o _ (by omega) (by omega), o _ (by omega) (by omega), o _ (by omega) (by omega), q5, q7, q11]
      exact ⟨qa, b, c, hst⟩
  · by_cases htr : ∃ w : Int32, (w = 2 ∨ w = 4) ∧ endR q i (turnR r i) = tripR q i w
    · obtain ⟨w, hw, ew⟩ := htr
      rw [ew]
      exact MI.tripw qa hst hw
    · have o : ∀ y, y ≠ 8 + 20 * i + 5 → y ≠ 8 + 20 * i + 8 → endR q i (turnR r i) y = q y := by
        intro y g1 g2
        unfold endR at htr ⊢
        split at htr
        · rename_i h0; rw [if_pos h0]
        · rename_i h0
          rw [if_neg h0]
          split at htr
          · rename_i h1
            rw [if_pos h1]
            split at htr
            · rename_i h3
              rw [if_pos h3]
              split
              · rfl
              · split
                · rw [up_o _ _ g1, up_o _ _ g2]
                · rw [up_o _ _ g2]
            · exact absurd ⟨4, Or.inr rfl, rfl⟩ htr
          · exact absurd ⟨2, Or.inl rfl, rfl⟩ htr
      unfold MI
      rw [h5, o _ (by omega) (by omega), o _ (by omega) (by omega), o _ (by omega) (by omega), o _ (by omega) (by omega), o _ (by omega) (by omega), o _ (by omega) (by omega), o _ (by omega) (by omega)]
      exact ⟨qa, fun e => absurd e (by decide), fun e => absurd e (by decide), hst⟩
  · rw [ew]
    exact MI.tripw qa hst hw
theorem go_mode2 (hi8 : i < 8) (h : goR r i (8 + 20 * i + 5) = 2) : r (8 + 20 * i + 5) = 2 := by
  unfold goR at h
  rw [finR_o (by omega) (by omega)] at h
  have q5 : r3R r i (8 + 20 * i + 5) = r (8 + 20 * i + 5) := r3R_o (by omega) (by omega) (by omega) (by omega) (by omega) (by omega)
  rcases end5 (r := r3R r i) (i := i) (T := turnR r i) with h5 | h5 | ⟨hT, w, hw, ew⟩
  · rw [← q5, ← h5]
    exact h
  · rw [h5] at h
    exact absurd h (by decide)
  · rw [ew, trip5] at h
    exact absurd h (by decide)
end GO
