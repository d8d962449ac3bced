/-! the law's start, and the law -/
theorem ri_1 (z : Nat) : (ini_R (fun _ _ => 0, fun _ _ => 0) (z + 173)).1 (z + 174) = upd (fun _ => 0) 2 500 := by
  unfold ini_R
  rw [show z + 174 = z + 173 + 1 by omega, wi_s]
  rfl
theorem ri_2 (z : Nat) : ∀ b, b ≠ z + 174 → (ini_R (fun _ _ => 0, fun _ _ => 0) (z + 173)).1 b = fun _ => 0 := fun b hb => by
  unfold ini_R
  rw [wi_o _ _ _ (by omega)]
  rfl
theorem ri_gf (z : Nat) : GF ((ini_R (fun _ _ => 0, fun _ _ => 0) (z + 173)).1 (z + 174)) 0 0 0 := by
  rw [ri_1]
  exact ⟨⟨rfl, rfl, rfl, by omega, by omega, by omega, Or.inl rfl, fun i hi => absurd hi (Nat.not_lt_zero _)⟩, rfl, fun i hi => absurd hi (Nat.not_lt_zero _)⟩
theorem ri_ww {z : Nat} (hz : 0 < z) : WW z 0 (ini_B (fun _ _ => 0, fun _ _ => 0) z) (ini_R (fun _ _ => 0, fun _ _ => 0) (z + 173)) := by
  refine ⟨sm_init z hz, (ri_gf z).gr, ⟨0, by omega, ?_, fun j hj => absurd hj (Nat.not_lt_zero _)⟩, fun e => ?_⟩
  · rw [ri_2 _ _ (by omega)]
    rfl
  · rw [ri_2 _ _ (by omega)] at e
    exact absurd e (by decide)
theorem rt_empty {τ : bz_W} {M D : Nat} (hD : τ.2 M 10 = D) (hDM : D ≠ M) (h6 : τ.1 M 6 = 0) : f_X7_readTimetable τ M = some (-100, bz_wi (bz_wi (bz_wi τ M 8 0) M 9 0) D 0 (-4)) := by
  unfold f_X7_readTimetable
  rw [lt_n, lt_n]
  obtain ⟨τ0, e0⟩ : ∃ s, s = bz_wi (bz_wi τ M 8 0) M 9 0 := ⟨_, rfl⟩
  rw [← e0]
  have k8 : τ0.1 M 8 = 0 := by rw [e0, wi_so _ _ (by omega), wi_ss]
  have k9 : τ0.1 M 9 = 0 := by rw [e0, wi_ss]
  have k6 : τ0.1 M 6 = 0 := by rw [e0, wi_so _ _ (by omega), wi_so _ _ (by omega)]; exact h6
  have kD : τ0.2 M 10 = D := by rw [e0]; exact hD
  have hl : ∀ (K : Int32 → bz_W → Option (Int32 × bz_W)) f, f_X7_end_L5 M K (f + 1) 0 τ0 = K 0 τ0 := fun K f => by
    rw [f_X7_end_L5, k6, if_pos (Int32.le_refl _)]
  have hend : f_X7_end τ0 M = some (0, τ0) := by
    unfold f_X7_end
    rw [k8, lt_n]
    exact hl _ 1099
  have htime : f_X7_timeAt τ0 M 0 0 = some (-4, τ0) := by
    unfold f_X7_timeAt
    rw [k8, lt_n, m_in, bd_n, if_pos (by decide)]
  have i1 : in_ (4 * (0 : Int32)) 48 = true := by decide
  have i2 : (4 * (0 : Int32) : Int32).toNatClampNeg = 0 := by decide
  have hitem : f_X7_readsItem τ0 M = some (0, bz_wi τ0 D 0 (-4)) := by
    unfold f_X7_readsItem
    rw [k9, lt_n, hend, bd_n, lt_n, k9, if_pos rfl]
    try dsimp only
    rw [htime, bd_n, i1, ck_n, lt_n, ck_n, i2, kD, wi_2, kD, wi_ss, if_pos rfl]
  have hloop : ∀ (K : bz_W → Option (Int32 × bz_W)) f, f_X7_readTimetable_L12 M K (f + 1) 1 τ0 = some (-100, bz_wi τ0 D 0 (-4)) := fun K f => by
    rw [f_X7_readTimetable_L12, if_neg (by decide), hitem, bd_n, if_pos rfl, wi_o _ _ _ (Ne.symm hDM), k8, show (-100 : Int32) - 0 = -100 by decide]
  exact hloop _ 1099
theorem rq_none {τ : bz_W} {M N : Nat} (hN : τ.2 M 0 = N) (h0 : τ.1 N 0 = nI 0) : f_X7_request τ M 0 = some (-1, τ) := by
  have e := m_noN (τ := τ) (r := τ.1 N) hN (cnt := 0) (by omega) h0 (x := 0) (Or.inr (Int32.le_refl _))
  rw [wb_id] at e
  unfold f_X7_request f_X7_orders f_X7_wrongIn
  rw [if_neg (by decide), e, bd_n, if_neg (by decide), bd_n, if_pos (by decide), if_neg (by decide), bd_n, if_neg (by decide)]
theorem ww_rt {z k : Nat} {σ τ : bz_W} (h : WW z k σ τ) (hk : k < 512) (h6 : τ.1 (z + 173) 6 = 0) : ∃ σ1 τ1, f_X6_readTimetable σ z = some (-100, σ1) ∧ WW z (k + 1) σ1 τ1 ∧ τ1.1 (z + 174) = τ.1 (z + 174) := by
  have hD : τ.2 (z + 173) 10 = z + 178 := (Rel.lm h.1).2.2.2.2
  obtain ⟨σ1, e1, e2⟩ := act_go (sm_readTimetable h.1 hk) (rt_empty hD (by omega) h6)
  obtain ⟨h0, ⟨n, hn, hk2, hh⟩, hs⟩ := h.2
  refine ⟨σ1, _, e1, ⟨e2, ?_, ⟨n, hn, ?_, fun j hj => ?_⟩, fun e => ?_⟩, ?_⟩
  · rw [wi_o _ _ _ (by omega), wi_o _ _ _ (by omega), wi_o _ _ _ (by omega)]
    exact h0
  · rw [wi_o _ _ _ (by omega), wi_so _ _ (by omega), wi_so _ _ (by omega)]
    exact hk2
  · rw [wi_o _ _ _ (by omega), wi_o _ _ _ (by omega), wi_o _ _ _ (by omega)]
    exact hh j hj
  · rw [wi_o _ _ _ (by omega), wi_so _ _ (by omega), wi_so _ _ (by omega)] at e
    rw [wi_o _ _ _ (by omega), wi_o _ _ _ (by omega), wi_o _ _ _ (by omega)]
    exact hs e
  · rw [wi_o _ _ _ (by omega), wi_o _ _ _ (by omega), wi_o _ _ _ (by omega)]
theorem law_true {z : Nat} (hz : 0 < z) (L : Nat) (xs : Nat → Int32) : ∃ τ, f_L_law_b L xs (ini_B (fun _ _ => 0, fun _ _ => 0) z) z = some (1, τ) := by
  have h0 := ri_ww hz
  have g0 := ri_gf z
  have r0 := ri_1 z
  have k2 : (ini_R (fun _ _ => 0, fun _ _ => 0) (z + 173)).1 (z + 173) 2 = 0 := by rw [ri_2 _ _ (by omega)]
  have k4 : (ini_R (fun _ _ => 0, fun _ _ => 0) (z + 173)).1 (z + 173) 4 = 0 := by rw [ri_2 _ _ (by omega)]
  have k6 : (ini_R (fun _ _ => 0, fun _ _ => 0) (z + 173)).1 (z + 173) 6 = 0 := by rw [ri_2 _ _ (by omega)]
  obtain ⟨σ0, es⟩ : ∃ s, s = ini_B (fun _ _ => 0, fun _ _ => 0) z := ⟨_, rfl⟩
  obtain ⟨τ, et⟩ : ∃ s, s = ini_R (fun _ _ => 0, fun _ _ => 0) (z + 173) := ⟨_, rfl⟩
  rw [← es, ← et] at h0
  rw [← et] at g0 r0 k2 k4 k6
  rw [← es]
  obtain ⟨σ1, a1, h1⟩ := h0.same (v := -4) (sm_undo h0.1 (by omega)) (by unfold f_X7_undo; rw [k2, if_pos rfl])
  obtain ⟨σ2, a2, h2⟩ := h1.same (v := -4) (sm_restore h1.1 (by omega)) (by unfold f_X7_restore; rw [k4, if_pos rfl])
  have w2 := h2.wr2 (by omega) g0
  obtain ⟨l, hl⟩ := w2.line
  have hlen := hl.len
  obtain ⟨gg, a3⟩ := rd_queue w2 hl (x := 0) 0 (by omega) rfl
  have ew : wv l 0 = -4 := by unfold wv; rw [if_neg (by omega)]
  have w3 := w2.wb (n := z + 172) (by omega) gg
  have h3 : WW z 2 (bz_wb σ2 (z + 172) gg) τ := ⟨w3.1, h2.2⟩
  obtain ⟨σ4, a4, h4⟩ := h3.same (v := -1) (sm_request h3.1 (by omega) 0) (rq_none (Rel.hN h3.1) g0.1.1)
  have w4 := h4.wr2 (by omega) g0
  have ev : evV (τ.1 (z + 174)) 0 0 = -4 := by
    unfold evV
    rw [g0.1.2.2.1, vN_nI (by omega), if_neg (by omega)]
  have a5 : f_X6_event σ4 z 0 0 = some (-4, σ4) := (rd_event w4 (e := 0) (x := 0) (by omega) 0 (by omega) rfl).trans (congrArg (fun v => some (v, σ4)) ev)
  obtain ⟨σ6, τ6, a6, h6, r6⟩ := ww_rt h4 (by omega) k6
  have w6 := h6.wr2 (by omega) (show GF (τ6.1 (z + 174)) 0 0 0 by rw [r6]; exact g0)
  have a7 : f_X6_count σ6 z 6 = some (500, σ6) := (rd_count w6 (x := 6) 6 (by omega) rfl).trans (congrArg (fun v => some (v, σ6)) (by
    show τ6.1 (z + 174) 2 = 500
    rw [r6, r0, up_s]))
  obtain ⟨σ8, a8, h8⟩ := h6.same (v := -2) (sm_pass h6.1 (by omega) 0) (by unfold f_X7_pass; rw [m_in, bd_n, if_pos (by decide)])
  have hl8 := lw_loop (L := L) (xs := xs) 1100 0 5 σ8 τ6 (by omega) (by omega) (by omega) h8
  rw [nI_0] at hl8
  show OK1 (f_L_law_b L xs σ0 z)
  unfold f_L_law_b
  rw [a1, bd_n, if_pos rfl, a2, bd_n, if_pos rfl, a3, bd_n, ew, if_pos rfl, a4, bd_n, if_pos rfl, a5, bd_n, if_pos rfl, a6, bd_n, if_pos rfl, a7, bd_n, if_pos rfl, a8, bd_n, if_pos rfl]
  exact hl8
