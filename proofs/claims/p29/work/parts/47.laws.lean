/-! sets and orders answer 1 -/
theorem and1 (x : Int32) : x &&& 1 = 0 ∨ x &&& 1 = 1 := by
  have e : (x &&& 1).toBitVec = x.toBitVec &&& 1#32 := Int32.toBitVec_and ..
  rw [BitVec.and_one_eq_setWidth_ofBool_getLsbD] at e
  cases hb : x.toBitVec.getLsbD 0 with
  | false =>
    left
    apply Int32.toBitVec_inj.mp
    rw [e, hb]
    decide
  | true =>
    right
    apply Int32.toBitVec_inj.mp
    rw [e, hb]
    decide
section LW2
variable {z k i cnt ck t : Nat} {σ τ : bz_W}
theorem WW.wr2 (h : WW z k σ τ) (hk : k < 512) (hg : GF (τ.1 (z + 174)) cnt ck t) : WR z k cnt ck t σ τ := ⟨h.1, hk, hg.1⟩
theorem rd_event0 (h : WR z k cnt ck t σ τ) : f_X6_event σ z 0 2 = some (evV (τ.1 (z + 174)) 0 2, σ) := rd_event h (e := 0) (x := 2) (by omega) 2 (by omega) rfl
theorem l_sets (h : WW z k σ τ) (hk : k + 2 < 512) (hg : GF (τ.1 (z + 174)) cnt ck t) (hi : i < cnt) {s : Nat} (hs : 1 ≤ s ∧ s ≤ 3) (x : Int32) : ∃ σ1 τ1, f_L_sets σ z (nI s) (nI i) x = some (1, σ1) ∧ WW z (k + 2) σ1 τ1 ∧ OUT z τ τ1 := by
  have w := h.wr2 (by omega) hg
  rcases (show s = 1 ∨ s = 2 ∨ s = 3 by omega) with rfl | rfl | rfl
  · have hl := lowN_lt x (n := 10) (by omega)
    obtain ⟨σ1, τ1, e1, h1, o1, g1, v1⟩ := a_need h (by omega) hg hi (n := lowN x 10) (by omega)
    have w1 := h1.wr2 (by omega) g1
    obtain ⟨σ2, e2, h2⟩ := a_needB h1 (by omega) g1 hi
    refine ⟨σ2, τ1, ?_, h2, o1⟩
    have em : motV (τ.1 (z + 174)) i 4 = τ.1 (z + 174) (8 + 20 * i + 4) := rfl
    have em1 : motV (τ1.1 (z + 174)) i 4 = nI (lowN x 10) := v1
    unfold f_L_sets
    rw [if_pos (show nI 1 = (1 : Int32) from rfl), rd_motor w (x := 4) hi 4 (by omega) rfl, bd_n, em, l_low _ x (n := 10) (y := 10) (by omega) (by omega) rfl, bd_n, e1, bd_n, l_low _ x (n := 10) (y := 10) (by omega) (by omega) rfl, bd_n, lt_if]
    try dsimp only
    rw [if_pos rfl, rd_motor w1 (x := 4) hi 4 (by omega) rfl, bd_n, em1, l_low _ x (n := 10) (y := 10) (by omega) (by omega) rfl, bd_n, if_pos rfl, e2, bd_n, if_pos rfl]
  · have hl := lowN_lt x (n := 900) (by omega)
    obtain ⟨σ1, τ1, e1, h1, o1, g1, v1⟩ := a_limit h (by omega) hg (n := 10 + lowN x 900) (by omega) (by omega)
    have w1 := h1.wr2 (by omega) g1
    obtain ⟨σ2, e2, h2⟩ := a_limitB h1 (by omega)
    refine ⟨σ2, τ1, ?_, h2, o1⟩
    have em : cntV (τ.1 (z + 174)) cnt (τ.1 (z + 173) 5) (τ.1 (z + 173) 2) 6 = τ.1 (z + 174) 2 := rfl
    have em1 : cntV (τ1.1 (z + 174)) cnt (τ1.1 (z + 173) 5) (τ1.1 (z + 173) 2) 6 = nI (10 + lowN x 900) := v1
    have ea : (10 : Int32) + nI (lowN x 900) = nI (10 + lowN x 900) := nI_add 10 _
    unfold f_L_sets
    rw [if_neg (show ¬ nI 2 = (1 : Int32) by decide), if_pos (show nI 2 = (2 : Int32) from rfl), rd_count w (x := 6) 6 (by omega) rfl, bd_n, em, l_low _ x (n := 900) (y := 900) (by omega) (by omega) rfl, bd_n, ea, e1, bd_n, l_low _ x (n := 900) (y := 900) (by omega) (by omega) rfl, bd_n, lt_if]
    try dsimp only
    rw [ea, if_pos rfl, rd_count w1 (x := 6) 6 (by omega) rfl, bd_n, em1, l_low _ x (n := 900) (y := 900) (by omega) (by omega) rfl, bd_n, ea, if_pos rfl, e2, bd_n, if_pos rfl]
  · have hx := and1 x
    obtain ⟨y, ey⟩ : ∃ y, y = x &&& 1 := ⟨_, rfl⟩
    rw [← ey] at hx
    have e0 : (if y = 1 then (1 : Int32) else 0) = y := by
      rcases hx with e | e
      · rw [e, if_neg (by decide)]
      · rw [e, if_pos rfl]
    obtain ⟨σ1, τ1, e1, h1, o1, g1, v1⟩ := a_fan h (by omega) hg hx
    have w1 := h1.wr2 (by omega) g1
    refine ⟨σ1, τ1, ?_, h1.mono (by omega), o1⟩
    have em : cntV (τ.1 (z + 174)) cnt (τ.1 (z + 173) 5) (τ.1 (z + 173) 2) 7 = τ.1 (z + 174) 3 := rfl
    have em1 : cntV (τ1.1 (z + 174)) cnt (τ1.1 (z + 173) 5) (τ1.1 (z + 173) 2) 7 = y := v1
    unfold f_L_sets
    rw [if_neg (show ¬ nI 3 = (1 : Int32) by decide), if_neg (show ¬ nI 3 = (2 : Int32) by decide), rd_count w (x := 7) 7 (by omega) rfl, bd_n, em, lt_n, ← ey, lt_if]
    try dsimp only
    rw [e0, e1, bd_n, lt_if]
    try dsimp only
    rw [if_pos rfl, rd_count w1 (x := 7) 7 (by omega) rfl, bd_n, em1, if_pos rfl]
theorem l_orders (h : WW z k σ τ) (hk : k + 2 < 512) (hg : GF (τ.1 (z + 174)) cnt ck t) (ht : t + 1 < 2 ^ 30) (hi : i < cnt) {s : Nat} (hs : 4 ≤ s ∧ s ≤ 9) (x : Int32) : ∃ σ1 τ1, f_L_orders σ z (nI s) (nI i) x = some (1, σ1) ∧ WW z (k + 2) σ1 τ1 ∧ OUT z τ τ1 := by
  have w := h.wr2 (by omega) hg
  have hc := hg.1.2.2.2.1
  have hIM := hg.1.2.2.2.2.2.2.2 i hi
  obtain ⟨-, -, -, -, -, md, he, lo, -, -, -, -, -, -, -, -, e5, e6, e7, -, -, -, -, -, -, -, -, b5, b6, b7, -⟩ := id hIM
  have m5 : motV (τ.1 (z + 174)) i 5 = nI md := e5
  have m7 : motV (τ.1 (z + 174)) i 7 = τ.1 (z + 174) (8 + 20 * i + 7) := rfl
  have m6 : motV (τ.1 (z + 174)) i 6 = τ.1 (z + 174) (8 + 20 * i + 6) := rfl
  have m3 : motV (τ.1 (z + 174)) i 3 = τ.1 (z + 174) (8 + 20 * i + 3) := rfl
  have q : ∀ w, w ≤ 4 → (nI md = nI w ↔ md = w) := fun w hw => nI_eq (by omega) (by omega)
  unfold f_L_orders
  rw [rd_motor w (x := 5) hi 5 (by omega) rfl, bd_n, m5, rd_motor w (x := 7) hi 7 (by omega) rfl, bd_n, m7]
  by_cases s7 : s < 7
  · -- request
    rw [if_neg (show ¬ (7 : Int32) ≤ nI s from nI_ge (b := 7) s7 (by omega))]
    by_cases hm : md = 0
    · obtain ⟨σ1, τ1, r1, a1, h1, o1, g1, v1, v5, v9⟩ := a_req h (by omega) hg hi (by rw [e5, hm]; rfl)
      have g1' : GF (τ1.1 (z + 174)) cnt ck t := by rw [v1]; exact g1
      have w1 := h1.wr2 (by omega) g1'
      obtain ⟨l, hl⟩ := w1.line
      have hwt : wtB (τ1.1 (z + 174)) i = true := by rw [v1]; exact decide_eq_true v5
      obtain ⟨p, hp, ep⟩ := mem_getD ((hl.mem i).mpr ⟨hi, hwt⟩)
      have hpl := hl.place hp
      rw [ep, v1] at hpl
      have hlen := hl.len
      obtain ⟨gg, eq⟩ := rd_queue w1 hl (x := nI (pcnt r1 i cnt)) (pcnt r1 i cnt) (by omega) rfl
      have ew : wv l (pcnt r1 i cnt) = nI i := by unfold wv; rw [hpl, if_pos hp, ep]
      have w2 := w1.wb (n := z + 172) (by omega) gg
      have h2 : WW z (k + 1) (bz_wb σ1 (z + 172) gg) τ1 := ⟨w2.1, h1.2⟩
      refine ⟨_, τ1, ?_, h2.mono (by omega), o1⟩
      have v9' : motV (τ1.1 (z + 174)) i 9 = 0 := by
        rw [motV9, v1, if_pos v5, v9, g1.1.2.1, pk_sub2 (Nat.le_refl _), Nat.sub_self]
        rfl
      rw [a1, bd_n, if_pos (show nI md = 0 by rw [hm]; rfl), if_neg (nI_pos (by omega)), eq, bd_n, ew, if_pos rfl, rd_motor w2 (x := 9) hi 9 (by omega) rfl, bd_n, v9', if_pos rfl]
    · obtain ⟨σ1, τ1, a1, h1, o1, v1, v5⟩ := a_reqN h (by omega) hg hi (by rw [e5]; exact fun e => hm ((q 0 (by omega)).mp e))
      have w1 := h1.wr2 (by omega) (show GF (τ1.1 (z + 174)) cnt ck t by rw [v1]; exact hg)
      refine ⟨σ1, τ1, ?_, h1.mono (by omega), o1⟩
      have em : cntV (τ1.1 (z + 174)) cnt (τ1.1 (z + 173) 5) (τ1.1 (z + 173) 2) 8 = 1 := v5
      rw [a1, bd_n, if_neg (show ¬ nI md = 0 from fun e => hm ((q 0 (by omega)).mp e)), if_pos rfl, rd_count w1 (x := 8) 8 (by omega) rfl, bd_n, em, if_pos rfl]
  · rw [if_pos (show (7 : Int32) ≤ nI s from nI_le (a := 7) (by omega) (by omega))]
    rcases (show s = 7 ∨ s = 8 ∨ s = 9 by omega) with rfl | rfl | rfl
    · -- stop
      rw [if_pos (show nI 7 = (7 : Int32) from rfl)]
      by_cases hm : md = 0 ∨ md = 4
      · obtain ⟨σ1, τ1, a1, h1, o1, v1, v5⟩ := a_stopN h (by omega) hg hi (by rcases hm with e | e <;> rw [e5, e]; exact Or.inl rfl; exact Or.inr rfl)
        have w1 := h1.wr2 (by omega) (show GF (τ1.1 (z + 174)) cnt ck t by rw [v1]; exact hg)
        refine ⟨σ1, τ1, ?_, h1.mono (by omega), o1⟩
        have em : cntV (τ1.1 (z + 174)) cnt (τ1.1 (z + 173) 5) (τ1.1 (z + 173) 2) 8 = 1 := v5
        have fin : (if (-3 : Int32) = -3 then bd_ (f_X6_count σ1 z 8) fun r72 σ73 => if r72 = 1 then some ((1 : Int32), σ73) else some (0, σ73) else some (0, σ1)) = some (1, σ1) := by
          rw [if_pos rfl, rd_count w1 (x := 8) 8 (by omega) rfl, bd_n, em, if_pos rfl]
        rw [a1, bd_n, lt_n]
        try dsimp only
        rw [fin]
        rcases hm with e | e
        · rw [if_pos (show nI md ≤ 0 by rw [e]; decide)]
        · rw [if_neg (show ¬ nI md ≤ 0 by rw [e]; decide), if_pos (show (4 : Int32) ≤ nI md by rw [e]; decide)]
      · obtain ⟨σ1, τ1, a1, h1, o1, g1, v1⟩ := a_stop h (by omega) hg ht hi (by rw [e5]; exact fun e => hm (Or.inl ((q 0 (by omega)).mp e))) (by rw [e5]; exact fun e => hm (Or.inr ((q 4 (by omega)).mp e)))
        have w1 := h1.wr2 (by omega) g1
        refine ⟨σ1, τ1, ?_, h1.mono (by omega), o1⟩
        have em : motV (τ1.1 (z + 174)) i 5 = 0 := by
          show τ1.1 (z + 174) (8 + 20 * i + 5) = 0
          rw [v1, up_s]
        have ev : evV (τ1.1 (z + 174)) 0 2 = 3 := by
          rw [← evV_note hg.1 i 3 ht, v1]
          unfold evV
          rw [up_o _ _ (show 6 ≠ 8 + 20 * i + 5 by omega)]
          split
          · rw [up_o _ _ (by omega)]
          · rfl
        rw [a1, bd_n, e5, lt_n]
        try dsimp only
        rw [if_neg (show ¬ nI md ≤ (0 : Int32) from nI_ge (a := 0) (by omega) (by omega)), if_neg (show ¬ (4 : Int32) ≤ nI md from nI_ge (b := 4) (by omega) (by omega)), if_pos rfl, rd_motor w1 (x := 5) hi 5 (by omega) rfl, bd_n, em, if_pos rfl, rd_event0 w1, bd_n, ev, if_pos rfl]
    · -- losePhases
      rw [if_neg (show ¬ nI 8 = (7 : Int32) by decide), if_pos (show nI 8 = (8 : Int32) from rfl), l_low _ (x >>> (2 &&& 31)) (n := 8) (y := 8) (by omega) (by omega) rfl]
      simp only [bd_n]
      rw [lt_if]
      try dsimp only
      have hl8 := lowN_lt (x >>> (2 &&& 31)) (n := 8) (by omega)
      obtain ⟨p, hp, ep⟩ : ∃ p : Nat, p ≤ 7 ∧ (if x &&& 3 = 0 then nI (lowN (x >>> (2 &&& 31)) 8) else 0) = nI p := by
        by_cases g : x &&& 3 = 0
        · exact ⟨lowN (x >>> (2 &&& 31)) 8, by omega, by rw [if_pos g]⟩
        · exact ⟨0, by omega, by rw [if_neg g]; rfl⟩
      rw [ep]
      -- out, as a bit
      have ho : ∀ (e : Int32 → bz_W → Option (Int32 × bz_W)) (σ : bz_W), (lt_ e fun j39 => lt_ (fun (σ60 : bz_W) => (j39 0 σ60 : Option (Int32 × bz_W))) fun j61 => if nI md = 2 then if nI p ≤ 0 then j61 σ else j39 1 σ else j61 σ) = e (if md = 2 ∧ p ≠ 0 then 1 else 0) σ := by
        intro e σ
        rw [lt_n, lt_n]
        try dsimp only
        by_cases g : md = 2
        · rw [if_pos (show nI md = 2 by rw [g]; rfl)]
          by_cases g2 : p = 0
          · rw [if_pos (show nI p ≤ 0 by rw [g2]; decide), if_neg (fun x => x.2 g2)]
          · rw [if_neg (show ¬ nI p ≤ (0 : Int32) from nI_ge (a := 0) (by omega) (by omega)), if_pos ⟨g, g2⟩]
        · rw [if_neg (show ¬ nI md = 2 from fun e => g ((q 2 (by omega)).mp e)), if_neg (fun x => g x.1)]
      by_cases hne : τ.1 (z + 174) (8 + 20 * i + 7) = nI p
      · obtain ⟨σ1, a1, h1⟩ := a_loseN h (by omega) hg hi hp hne
        refine ⟨σ1, τ, ?_, h1.mono (by omega), out_same z τ⟩
        rw [a1, bd_n, ho, hne]
        try dsimp only
        rw [if_pos rfl, if_pos rfl]
      · obtain ⟨σ1, τ1, a1, h1, o1, v1⟩ := a_lose h (by omega) hg ht hi hp hne
        obtain ⟨cnt1, ck1, t1, w1, g1, -, -⟩ := h1.full (by omega)
        have e0 : τ1.1 (z + 174) 0 = τ.1 (z + 174) 0 := by
          rw [v1]
          unfold loseR
          split
          · rw [up_o _ _ (by omega)]
          · split
            · rw [noteR_o (by omega) (by omega), tripR_o (by omega) (by omega) (by omega), up_o _ _ (by omega)]
            · rw [up_o _ _ (by omega)]
        have hc1 := g1.1.2.2.2.1
        obtain rfl : cnt = cnt1 := (nI_eq (by omega) (by omega)).mp (hg.1.1.symm.trans (e0.symm.trans g1.1.1))
        refine ⟨σ1, τ1, ?_, h1.mono (by omega), o1⟩
        have k7 : motV (τ1.1 (z + 174)) i 7 = nI p := by
          show τ1.1 (z + 174) (8 + 20 * i + 7) = nI p
          rw [v1]
          unfold loseR
          split
          · rw [up_s]
          · split
            · rw [noteR_o (by omega) (by omega), tripR_o (by omega) (by omega) (by omega), up_s]
            · rw [up_s]
        rw [a1, bd_n, ho]
        try dsimp only
        rw [if_neg (fun e => hne e.symm), if_pos rfl, rd_motor w1 (x := 7) hi 7 (by omega) rfl, bd_n, k7, if_pos rfl, rd_motor w1 (x := 5) hi 5 (by omega) rfl, bd_n, lt_if]
        try dsimp only
        by_cases g : md = 2 ∧ p ≠ 0
        · have ev1 : loseR (τ.1 (z + 174)) i (nI p) = noteR (tripR (upd (τ.1 (z + 174)) (8 + 20 * i + 7) (nI p)) i 4) i 5 := by
            unfold loseR
            rw [if_neg (show ¬ nI p = 0 from fun e => g.2 ((nI_eq (b := 0) (by omega) (by omega)).mp e)), if_pos (by rw [e5, g.1]; rfl)]
          have k5 : motV (τ1.1 (z + 174)) i 5 = 4 := by
            show τ1.1 (z + 174) (8 + 20 * i + 5) = 4
            rw [v1, ev1, noteR_o (by omega) (by omega)]
            unfold tripR
            rw [up_o _ _ (by omega), up_o _ _ (by omega), up_s]
          have k11 : motV (τ1.1 (z + 174)) i 11 = 4 := by
            rw [motV11, if_pos (show τ1.1 (z + 174) (8 + 20 * i + 5) = 4 from k5), v1, ev1, noteR_o (by omega) (by omega)]
            unfold tripR
            rw [up_o _ _ (by omega), up_s]
          have hR : RF (tripR (upd (τ.1 (z + 174)) (8 + 20 * i + 7) (nI p)) i 4) cnt ck t := by
            have hM := hg.2.2 i hi
            exact (hg.mot1 hi (r' := tripR (upd (τ.1 (z + 174)) (8 + 20 * i + 7) (nI p)) i 4) (fun y hy => by rw [tripR_o (by omega) (by omega) (by omega), up_o _ _ (by omega)]) ((hIM.lost hp).trip 4) (MI.tripw (by rw [up_o _ _ (by omega), up_o _ _ (by omega), up_o _ _ (by omega)]; exact hM.1) (by rw [up_o _ _ (by omega), up_o _ _ (by omega)]; exact hM.2.2.2) (Or.inr rfl))).1
          have kev : evV (τ1.1 (z + 174)) 0 2 = 5 := by rw [v1, ev1]; exact evV_note hR i 5 ht
          rw [if_pos g, k5, if_pos (show (4 : Int32) = if (1 : Int32) = 0 then nI md else 4 from rfl), if_neg (show ¬ (1 : Int32) = 0 by decide), rd_motor w1 (x := 11) hi 11 (by omega) rfl, bd_n, k11, if_pos rfl, rd_event0 w1, bd_n, kev, if_pos rfl]
        · have k5 : motV (τ1.1 (z + 174)) i 5 = nI md := by
            show τ1.1 (z + 174) (8 + 20 * i + 5) = nI md
            rw [v1]
            unfold loseR
            by_cases g0 : nI p = 0
            · rw [if_pos g0, up_o _ _ (by omega), e5]
            · rw [if_neg g0, if_neg (by rw [e5]; exact fun e => g ⟨(q 2 (by omega)).mp e, fun e2 => g0 (by rw [e2]; rfl)⟩), up_o _ _ (by omega), e5]
          rw [if_neg g, if_pos rfl, k5, if_pos rfl, if_pos rfl]
    · -- reset
      rw [if_neg (show ¬ nI 9 = (7 : Int32) by decide), if_neg (show ¬ nI 9 = (8 : Int32) by decide), rd_motor w (x := 6) hi 6 (by omega) rfl, bd_n, m6, rd_motor w (x := 3) hi 3 (by omega) rfl, m3]
      simp only [bd_n]
      obtain ⟨y, ey⟩ : ∃ y : Int32, y = if τ.1 (z + 174) (8 + 20 * i + 5) = 4 then (if τ.1 (z + 174) (8 + 20 * i + 7) = 0 then (if τ.1 (z + 174) (8 + 20 * i + 6) ≤ τ.1 (z + 174) (8 + 20 * i + 3) / 2 then 0 else 2) else 4) else 1 := ⟨_, rfl⟩
      have hj : ∀ (e : Int32 → bz_W → Option (Int32 × bz_W)), (lt_ e fun j12 => if nI md = 4 then if τ.1 (z + 174) (8 + 20 * i + 7) = 0 then if τ.1 (z + 174) (8 + 20 * i + 6) ≤ τ.1 (z + 174) (8 + 20 * i + 3) / 2 then j12 0 σ else j12 2 σ else j12 4 σ else j12 1 σ) = e y σ := by
        intro e
        rw [lt_n, ey, e5]
        try dsimp only
        split
        · split
          · split <;> rfl
          · rfl
        · rfl
      rw [hj]
      try dsimp only
      by_cases hy : y = 0
      · have h3 : τ.1 (z + 174) (8 + 20 * i + 5) = 4 ∧ τ.1 (z + 174) (8 + 20 * i + 7) = 0 ∧ τ.1 (z + 174) (8 + 20 * i + 6) ≤ τ.1 (z + 174) (8 + 20 * i + 3) / 2 := by
          rw [hy] at ey
          by_cases a : τ.1 (z + 174) (8 + 20 * i + 5) = 4
          · rw [if_pos a] at ey
            by_cases b : τ.1 (z + 174) (8 + 20 * i + 7) = 0
            · rw [if_pos b] at ey
              by_cases c : τ.1 (z + 174) (8 + 20 * i + 6) ≤ τ.1 (z + 174) (8 + 20 * i + 3) / 2
              · exact ⟨a, b, c⟩
              · rw [if_neg c] at ey
                exact absurd ey (by decide)
            · rw [if_neg b] at ey
              exact absurd ey (by decide)
          · rw [if_neg a] at ey
            exact absurd ey (by decide)
        obtain ⟨σ1, τ1, a1, h1, o1, g1, v1⟩ := a_reset h (by omega) hg ht hi h3.1 h3.2.1 h3.2.2
        have w1 := h1.wr2 (by omega) g1
        refine ⟨σ1, τ1, ?_, h1.mono (by omega), o1⟩
        have em : motV (τ1.1 (z + 174)) i 5 = 0 := by
          show τ1.1 (z + 174) (8 + 20 * i + 5) = 0
          rw [v1, up_s]
        have ev : evV (τ1.1 (z + 174)) 0 2 = 6 := by
          rw [← evV_note hg.1 i 6 ht, v1]
          unfold evV
          rw [up_o _ _ (show 6 ≠ 8 + 20 * i + 5 by omega)]
          split
          · rw [up_o _ _ (by omega)]
          · rfl
        rw [a1, bd_n, hy, if_pos (by decide), if_pos rfl, rd_motor w1 (x := 5) hi 5 (by omega) rfl, bd_n, em, if_pos rfl, rd_event0 w1, bd_n, ev, if_pos rfl]
      · have hy3 : y = 1 ∨ y = 2 ∨ y = 4 := by
          rw [ey] at hy ⊢
          split
          · rename_i a
            rw [if_pos a] at hy
            split
            · rename_i b
              rw [if_pos b] at hy
              split
              · rename_i c
                rw [if_pos c] at hy
                exact absurd rfl hy
              · exact Or.inr (Or.inl rfl)
            · exact Or.inr (Or.inr rfl)
          · exact Or.inl rfl
        obtain ⟨σ1, τ1, a1, h1, o1, v1, v5⟩ := a_resetN h (by omega) hg hi ey.symm hy3
        have w1 := h1.wr2 (by omega) (show GF (τ1.1 (z + 174)) cnt ck t by rw [v1]; exact hg)
        refine ⟨σ1, τ1, ?_, h1.mono (by omega), o1⟩
        have em : cntV (τ1.1 (z + 174)) cnt (τ1.1 (z + 173) 5) (τ1.1 (z + 173) 2) 8 = y := v5
        rw [a1, bd_n, if_neg (by rcases hy3 with e | e | e <;> rw [e] <;> decide), if_pos rfl, rd_count w1 (x := 8) 8 (by omega) rfl, bd_n, em, if_pos rfl]
end LW2
