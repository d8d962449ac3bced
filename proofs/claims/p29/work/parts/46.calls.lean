/-! the acts as calls: what they answer, what they leave -/
/-- an act's trace: nothing was recorded and the row is as it was; or the row that was lies on top of the history -/
def OUT (z : Nat) (τ τ1 : bz_W) : Prop := (τ1.1 (z + 174) = τ.1 (z + 174) ∧ τ1.1 (z + 173) 2 = τ.1 (z + 173) 2) ∨ ∃ n, n ≤ 4 ∧ τ.1 (z + 173) 2 = nI n ∧ τ1.1 (z + 173) 2 = nI (min n 3 + 1) ∧ ∀ x, x < 246 → τ1.1 (z + 175) (246 * min n 3 + x) = τ.1 (z + 174) x
theorem WW.rec {z k : Nat} {σ τ : bz_W} (h : WW z k σ τ) : ∃ n τ', n ≤ 4 ∧ τ.1 (z + 173) 2 = nI n ∧ f_X7_record τ (z + 173) = some (0, τ') ∧ f_X7_record (bz_wb τ (z + 174) (τ.1 (z + 174))) (z + 173) = some (0, bz_wb τ' (z + 174) (τ.1 (z + 174))) ∧ τ'.2 (z + 173) 0 = z + 174 := by
  obtain ⟨n, hn, hk, -⟩ := h.2.2.1
  obtain ⟨τ', g1, g2, g3, -⟩ := rec_go (Rel.lm h.1) hn hk
  have e : bz_wb τ' (z + 174) (τ.1 (z + 174)) = τ' := by rw [← g3 (z + 174) (by omega) (by omega), wb_id]
  exact ⟨n, τ', hn, hk, g1, by rw [wb_id, e]; exact g1, by rw [g2]; exact Rel.hN h.1⟩
theorem SP.out {z k : Nat} {σ τ τ1 : bz_W} {r1 : Nat → Int32} (h : SP z τ τ1 r1) (hw : WW z k σ τ) : OUT z τ τ1 ∧ τ1.1 (z + 174) = r1 ∧ τ1.1 (z + 173) 5 = τ.1 (z + 173) 5 := by
  obtain ⟨n, hn, hk, -⟩ := hw.2.2.1
  obtain ⟨t1, t2, t3, t4, -⟩ := h.tp (Rel.lm hw.1) hn hk
  exact ⟨Or.inr ⟨n, hn, hk, t2, t3⟩, t1, t4⟩
theorem out_ref (z : Nat) (τ : bz_W) (x : Int32) : OUT z τ (bz_wi τ (z + 173) 5 x) := Or.inl ⟨wi_o _ _ _ (by omega), wi_so _ _ (by omega)⟩
theorem out_same (z : Nat) (τ : bz_W) : OUT z τ τ := Or.inl ⟨rfl, rfl⟩
section AC
variable {z k i cnt ck t : Nat} {σ τ : bz_W}
theorem a_need (h : WW z k σ τ) (hk : k < 512) (hg : GF (τ.1 (z + 174)) cnt ck t) (hi : i < cnt) {n : Nat} (hn : n ≤ 9) : ∃ σ1 τ1, f_X6_setNeed σ z (nI i) (nI n) = some (if τ.1 (z + 174) (8 + 20 * i + 4) = nI n then -4 else τ.1 (z + 174) (8 + 20 * i + 4), σ1) ∧ WW z (k + 1) σ1 τ1 ∧ OUT z τ τ1 ∧ GF (τ1.1 (z + 174)) cnt ck t ∧ τ1.1 (z + 174) (8 + 20 * i + 4) = nI n := by
  obtain ⟨nn, τ', -, -, g1, g2, g3⟩ := h.rec
  have hN := Rel.hN h.1
  have hc := hg.1.2.2.2.1
  have e : f_X7_setNeed (bz_wb τ (z + 174) (τ.1 (z + 174))) (z + 173) (nI i) (nI n) = if τ.1 (z + 174) (8 + 20 * i + 4) = nI n then some (-4, bz_wb τ (z + 174) (τ.1 (z + 174))) else some (τ.1 (z + 174) (8 + 20 * i + 4), bz_wb τ' (z + 174) (upd (τ.1 (z + 174)) (8 + 20 * i + 4) (nI n))) := by
    unfold f_X7_setNeed
    rw [m_noY hN hc hg.1.1 hi, bd_n, if_pos rfl, m_in, bd_n, if_neg (nI_pos (by omega)), if_neg (show ¬ (9 : Int32) < nI n from nI_nlt (a := 9) (by omega) (by omega)), if_neg (by decide), m_of4 hN (by omega), bd_n, g2, bd_n, m_put4 g3 (by omega), bd_n]
  rw [wb_id] at e
  by_cases h4 : τ.1 (z + 174) (8 + 20 * i + 4) = nI n
  · rw [if_pos h4] at e ⊢
    obtain ⟨σ1, a1, a2⟩ := h.same (sm_setNeed h.1 hk (nI i) (nI n)) e
    exact ⟨σ1, τ, a1, a2, out_same z τ, hg, h4⟩
  · rw [if_neg h4] at e ⊢
    have hsp : SP z τ (bz_wb τ' (z + 174) (upd (τ.1 (z + 174)) (8 + 20 * i + 4) (nI n))) _ := ⟨τ', g1, rfl⟩
    obtain ⟨σ1, a1, a2⟩ := h.act (sm_setNeed h.1 hk (nI i) (nI n)) e hsp (hg.need hi hn).gr
    obtain ⟨o1, o2, -⟩ := hsp.out h
    exact ⟨σ1, _, a1, a2, o1, by rw [o2]; exact hg.need hi hn, by rw [o2, up_s]⟩
theorem a_needB (h : WW z k σ τ) (hk : k < 512) (hg : GF (τ.1 (z + 174)) cnt ck t) (hi : i < cnt) : ∃ σ1, f_X6_setNeed σ z (nI i) 10 = some (-2, σ1) ∧ WW z (k + 1) σ1 τ := by
  have hN := Rel.hN h.1
  have e : f_X7_setNeed (bz_wb τ (z + 174) (τ.1 (z + 174))) (z + 173) (nI i) 10 = some (-2, bz_wb τ (z + 174) (τ.1 (z + 174))) := by
    unfold f_X7_setNeed
    rw [m_noY hN hg.1.2.2.2.1 hg.1.1 hi, bd_n, if_pos rfl, m_in, bd_n]
    rfl
  rw [wb_id] at e
  exact h.same (sm_setNeed h.1 hk (nI i) 10) e
theorem a_limit (h : WW z k σ τ) (hk : k < 512) (hg : GF (τ.1 (z + 174)) cnt ck t) {n : Nat} (h1 : 10 ≤ n) (h2 : n ≤ 2000) : ∃ σ1 τ1, f_X6_setLimit σ z (nI n) = some (if τ.1 (z + 174) 2 = nI n then -4 else τ.1 (z + 174) 2, σ1) ∧ WW z (k + 1) σ1 τ1 ∧ OUT z τ τ1 ∧ GF (τ1.1 (z + 174)) cnt ck t ∧ τ1.1 (z + 174) 2 = nI n := by
  obtain ⟨nn, τ', -, -, g1, g2, g3⟩ := h.rec
  have hN := Rel.hN h.1
  have e : f_X7_setLimit (bz_wb τ (z + 174) (τ.1 (z + 174))) (z + 173) (nI n) = if τ.1 (z + 174) 2 = nI n then some (-4, bz_wb τ (z + 174) (τ.1 (z + 174))) else some (τ.1 (z + 174) 2, bz_wb τ' (z + 174) (upd (τ.1 (z + 174)) 2 (nI n))) := by
    unfold f_X7_setLimit
    rw [m_in, bd_n, if_neg (show ¬ nI n < (10 : Int32) from nI_nlt (b := 10) h1 (by omega)), if_neg (show ¬ (2000 : Int32) < nI n from nI_nlt (a := 2000) (by omega) (by omega)), if_neg (by decide), lt_n, wb_2, hN, wb_s, g2, bd_n, lt_n, wb_2, g3, wi_wb]
  rw [wb_id] at e
  by_cases h4 : τ.1 (z + 174) 2 = nI n
  · rw [if_pos h4] at e ⊢
    obtain ⟨σ1, a1, a2⟩ := h.same (sm_setLimit h.1 hk (nI n)) e
    exact ⟨σ1, τ, a1, a2, out_same z τ, hg, h4⟩
  · rw [if_neg h4] at e ⊢
    have hsp : SP z τ (bz_wb τ' (z + 174) (upd (τ.1 (z + 174)) 2 (nI n))) _ := ⟨τ', g1, rfl⟩
    have hg2 : GF (upd (τ.1 (z + 174)) 2 (nI n)) cnt ck t := hg.hdr (Nat.le_refl _) hg.1.2.2.2.2.1 (fun y hy => up_o _ _ (by omega)) (by rw [up_o _ _ (by omega)]; exact hg.1.2.1) (by rw [up_o _ _ (by omega)]; exact hg.1.2.2.2.2.2.2.1)
    obtain ⟨σ1, a1, a2⟩ := h.act (sm_setLimit h.1 hk (nI n)) e hsp hg2.gr
    obtain ⟨o1, o2, -⟩ := hsp.out h
    exact ⟨σ1, _, a1, a2, o1, by rw [o2]; exact hg2, by rw [o2, up_s]⟩
theorem a_limitB (h : WW z k σ τ) (hk : k < 512) : ∃ σ1, f_X6_setLimit σ z 9 = some (-2, σ1) ∧ WW z (k + 1) σ1 τ := by
  refine h.same (sm_setLimit h.1 hk 9) ?_
  unfold f_X7_setLimit
  rw [m_in, bd_n]
  rfl
theorem a_fan (h : WW z k σ τ) (hk : k < 512) (hg : GF (τ.1 (z + 174)) cnt ck t) {x : Int32} (hx : x = 0 ∨ x = 1) : ∃ σ1 τ1, f_X6_setFan σ z x = some (if τ.1 (z + 174) 3 = x then -4 else x, σ1) ∧ WW z (k + 1) σ1 τ1 ∧ OUT z τ τ1 ∧ GF (τ1.1 (z + 174)) cnt ck t ∧ τ1.1 (z + 174) 3 = x := by
  obtain ⟨nn, τ', -, -, g1, g2, g3⟩ := h.rec
  have hN := Rel.hN h.1
  have e : f_X7_setFan (bz_wb τ (z + 174) (τ.1 (z + 174))) (z + 173) x = if τ.1 (z + 174) 3 = x then some (-4, bz_wb τ (z + 174) (τ.1 (z + 174))) else some (x, bz_wb τ' (z + 174) (upd (τ.1 (z + 174)) 3 x)) := by
    unfold f_X7_setFan
    rcases hx with rfl | rfl
    · rw [lt_n, if_pos rfl]
      dsimp only
      rw [wb_2, hN, wb_s, g2, bd_n, lt_n, wb_2, g3, wi_wb]
    · rw [lt_n, if_neg (by decide)]
      dsimp only
      rw [wb_2, hN, wb_s, g2, bd_n, lt_n, wb_2, g3, wi_wb]
  rw [wb_id] at e
  by_cases h4 : τ.1 (z + 174) 3 = x
  · rw [if_pos h4] at e ⊢
    obtain ⟨σ1, a1, a2⟩ := h.same (sm_setFan h.1 hk x hx) e
    exact ⟨σ1, τ, a1, a2, out_same z τ, hg, h4⟩
  · rw [if_neg h4] at e ⊢
    have hsp : SP z τ (bz_wb τ' (z + 174) (upd (τ.1 (z + 174)) 3 x)) _ := ⟨τ', g1, rfl⟩
    have hg2 : GF (upd (τ.1 (z + 174)) 3 x) cnt ck t := hg.hdr (Nat.le_refl _) hg.1.2.2.2.2.1 (fun y hy => up_o _ _ (by omega)) (by rw [up_o _ _ (by omega)]; exact hg.1.2.1) (by rw [up_s]; exact hx)
    obtain ⟨σ1, a1, a2⟩ := h.act (sm_setFan h.1 hk x hx) e hsp hg2.gr
    obtain ⟨o1, o2, -⟩ := hsp.out h
    exact ⟨σ1, _, a1, a2, o1, by rw [o2]; exact hg2, by rw [o2, up_s]⟩
/-- a call refused for the reason w -/
theorem a_ref (h : WW z k σ τ) {f g : Option (Int32 × bz_W)} {w : Int32} (hs : ∃ v σ1 τ1, f = some (v, σ1) ∧ g = some (v, τ1) ∧ bz_Rel z (k + 1) σ1 τ1) (hg : g = some (-3, bz_wi τ (z + 173) 5 w)) : ∃ σ1 τ1, f = some (-3, σ1) ∧ WW z (k + 1) σ1 τ1 ∧ OUT z τ τ1 ∧ τ1.1 (z + 174) = τ.1 (z + 174) ∧ τ1.1 (z + 173) 5 = w := by
  obtain ⟨σ1, a1, a2⟩ := h.ref hs hg
  exact ⟨σ1, _, a1, a2, out_ref z τ w, wi_o _ _ _ (by omega), wi_ss _ _ _ _⟩
theorem a_stop (h : WW z k σ τ) (hk : k < 512) (hg : GF (τ.1 (z + 174)) cnt ck t) (ht : t + 1 < 2 ^ 30) (hi : i < cnt) (hm : ¬ τ.1 (z + 174) (8 + 20 * i + 5) = 0) (hm4 : ¬ τ.1 (z + 174) (8 + 20 * i + 5) = 4) : ∃ σ1 τ1, f_X6_stop σ z (nI i) = some (τ.1 (z + 174) (8 + 20 * i + 5), σ1) ∧ WW z (k + 1) σ1 τ1 ∧ OUT z τ τ1 ∧ GF (τ1.1 (z + 174)) cnt ck (t + 1) ∧ τ1.1 (z + 174) = upd (noteR (τ.1 (z + 174)) i 3) (8 + 20 * i + 5) 0 := by
  obtain ⟨nn, τ', -, -, g1, g2, g3⟩ := h.rec
  have hN := Rel.hN h.1
  have hc := hg.1.2.2.2.1
  have eo : f_X7_orders (bz_wb τ (z + 174) (τ.1 (z + 174))) (z + 173) 1 (nI i) 0 = some (0, bz_wb τ' (z + 174) (upd (noteR (τ.1 (z + 174)) i 3) (8 + 20 * i + 5) 0)) := ord_ok (by rw [mw_1 hN hg.1 hi, if_neg hm, if_neg hm4]) g2 (mc_1 g3 (show i < 8 by omega) hg.1.2.2.1 (show t < 2 ^ 30 by omega) 0)
  have e : f_X7_stop (bz_wb τ (z + 174) (τ.1 (z + 174))) (z + 173) (nI i) = some (τ.1 (z + 174) (8 + 20 * i + 5), bz_wb τ' (z + 174) (upd (noteR (τ.1 (z + 174)) i 3) (8 + 20 * i + 5) 0)) := by
    unfold f_X7_stop
    rw [m_noY hN hc hg.1.1 hi, bd_n, lt_n, if_pos rfl, m_of5 hN (by omega), bd_n]
    dsimp only
    rw [eo, bd_n, if_pos (by decide)]
  rw [wb_id] at e
  have hsp : SP z τ (bz_wb τ' (z + 174) (upd (noteR (τ.1 (z + 174)) i 3) (8 + 20 * i + 5) 0)) _ := ⟨τ', g1, rfl⟩
  have hg2 : GF (upd (noteR (τ.1 (z + 174)) i 3) (8 + 20 * i + 5) 0) cnt ck (t + 1) := (hg.note ht i 3).mode hi (m := 0) (Or.inl rfl)
  obtain ⟨σ1, a1, a2⟩ := h.act (sm_stop h.1 hk (nI i)) e hsp hg2.gr
  obtain ⟨o1, o2, -⟩ := hsp.out h
  exact ⟨σ1, _, a1, a2, o1, by rw [o2]; exact hg2, o2⟩
theorem a_stopN (h : WW z k σ τ) (hk : k < 512) (hg : GF (τ.1 (z + 174)) cnt ck t) (hi : i < cnt) (hm : τ.1 (z + 174) (8 + 20 * i + 5) = 0 ∨ τ.1 (z + 174) (8 + 20 * i + 5) = 4) : ∃ σ1 τ1, f_X6_stop σ z (nI i) = some (-3, σ1) ∧ WW z (k + 1) σ1 τ1 ∧ OUT z τ τ1 ∧ τ1.1 (z + 174) = τ.1 (z + 174) ∧ τ1.1 (z + 173) 5 = 1 := by
  have hN := Rel.hN h.1
  have hc := hg.1.2.2.2.1
  have ew : f_X7_wrongIn (bz_wb τ (z + 174) (τ.1 (z + 174))) (z + 173) 1 (nI i) 0 = some (1, bz_wb τ (z + 174) (τ.1 (z + 174))) := by
    rw [mw_1 hN hg.1 hi]
    rcases hm with e | e
    · rw [if_pos e]
    · rw [if_neg (by rw [e]; decide), if_pos e]
  have eo := ord_no ew (Or.inl rfl)
  have e : f_X7_stop (bz_wb τ (z + 174) (τ.1 (z + 174))) (z + 173) (nI i) = some (-3, bz_wi (bz_wb τ (z + 174) (τ.1 (z + 174))) (z + 173) 5 1) := by
    unfold f_X7_stop
    rw [m_noY hN hc hg.1.1 hi, bd_n, lt_n, if_pos rfl, m_of5 hN (by omega), bd_n]
    dsimp only
    rw [eo, bd_n, if_neg (by decide)]
  rw [wb_id] at e
  exact a_ref h (sm_stop h.1 hk (nI i)) e
theorem a_reset (h : WW z k σ τ) (hk : k < 512) (hg : GF (τ.1 (z + 174)) cnt ck t) (ht : t + 1 < 2 ^ 30) (hi : i < cnt) (hm : τ.1 (z + 174) (8 + 20 * i + 5) = 4) (h7 : τ.1 (z + 174) (8 + 20 * i + 7) = 0) (h6 : τ.1 (z + 174) (8 + 20 * i + 6) ≤ τ.1 (z + 174) (8 + 20 * i + 3) / 2) : ∃ σ1 τ1, f_X6_reset σ z (nI i) = some (τ.1 (z + 174) (8 + 20 * i + 6), σ1) ∧ WW z (k + 1) σ1 τ1 ∧ OUT z τ τ1 ∧ GF (τ1.1 (z + 174)) cnt ck (t + 1) ∧ τ1.1 (z + 174) = upd (noteR (τ.1 (z + 174)) i 6) (8 + 20 * i + 5) 0 := by
  obtain ⟨nn, τ', -, -, g1, g2, g3⟩ := h.rec
  have hN := Rel.hN h.1
  have hc := hg.1.2.2.2.1
  have eo : f_X7_orders (bz_wb τ (z + 174) (τ.1 (z + 174))) (z + 173) 3 (nI i) 0 = some (0, bz_wb τ' (z + 174) (upd (noteR (τ.1 (z + 174)) i 6) (8 + 20 * i + 5) 0)) := ord_ok (by rw [mw_3 hN hg.1 hi, if_pos hm, if_pos h7, if_pos h6]) g2 (mc_3 g3 (show i < 8 by omega) hg.1.2.2.1 (show t < 2 ^ 30 by omega) 0)
  have e : f_X7_reset (bz_wb τ (z + 174) (τ.1 (z + 174))) (z + 173) (nI i) = some (τ.1 (z + 174) (8 + 20 * i + 6), bz_wb τ' (z + 174) (upd (noteR (τ.1 (z + 174)) i 6) (8 + 20 * i + 5) 0)) := by
    unfold f_X7_reset
    rw [eo, bd_n, if_pos (by decide), m_of6 g3 (by omega), bd_n, up_o _ _ (show 8 + 20 * i + 6 ≠ 8 + 20 * i + 5 by omega), noteR_o (by omega) (by omega)]
  rw [wb_id] at e
  have hsp : SP z τ (bz_wb τ' (z + 174) (upd (noteR (τ.1 (z + 174)) i 6) (8 + 20 * i + 5) 0)) _ := ⟨τ', g1, rfl⟩
  have hg2 : GF (upd (noteR (τ.1 (z + 174)) i 6) (8 + 20 * i + 5) 0) cnt ck (t + 1) := (hg.note ht i 6).mode hi (m := 0) (Or.inl rfl)
  obtain ⟨σ1, a1, a2⟩ := h.act (sm_reset h.1 hk (nI i)) e hsp hg2.gr
  obtain ⟨o1, o2, -⟩ := hsp.out h
  exact ⟨σ1, _, a1, a2, o1, by rw [o2]; exact hg2, o2⟩
theorem a_resetN (h : WW z k σ τ) (hk : k < 512) (hg : GF (τ.1 (z + 174)) cnt ck t) (hi : i < cnt) {w : Int32} (hw : (if τ.1 (z + 174) (8 + 20 * i + 5) = 4 then (if τ.1 (z + 174) (8 + 20 * i + 7) = 0 then (if τ.1 (z + 174) (8 + 20 * i + 6) ≤ τ.1 (z + 174) (8 + 20 * i + 3) / 2 then 0 else 2) else 4) else 1) = w) (h0 : w = 1 ∨ w = 2 ∨ w = 4) : ∃ σ1 τ1, f_X6_reset σ z (nI i) = some (-3, σ1) ∧ WW z (k + 1) σ1 τ1 ∧ OUT z τ τ1 ∧ τ1.1 (z + 174) = τ.1 (z + 174) ∧ τ1.1 (z + 173) 5 = w := by
  have hN := Rel.hN h.1
  have eo := ord_no (by rw [mw_3 hN hg.1 hi 0, hw]) h0
  have e : f_X7_reset (bz_wb τ (z + 174) (τ.1 (z + 174))) (z + 173) (nI i) = some (-3, bz_wi (bz_wb τ (z + 174) (τ.1 (z + 174))) (z + 173) 5 w) := by
    unfold f_X7_reset
    rw [eo, bd_n, if_neg (by decide)]
  rw [wb_id] at e
  exact a_ref h (sm_reset h.1 hk (nI i)) e
theorem a_lose (h : WW z k σ τ) (hk : k < 512) (hg : GF (τ.1 (z + 174)) cnt ck t) (ht : t + 1 < 2 ^ 30) (hi : i < cnt) {p : Nat} (hp : p ≤ 7) (hne : ¬ τ.1 (z + 174) (8 + 20 * i + 7) = nI p) : ∃ σ1 τ1, f_X6_losePhases σ z (nI i) (nI p) = some (τ.1 (z + 174) (8 + 20 * i + 7), σ1) ∧ WW z (k + 1) σ1 τ1 ∧ OUT z τ τ1 ∧ τ1.1 (z + 174) = loseR (τ.1 (z + 174)) i (nI p) := by
  obtain ⟨nn, τ', -, -, g1, g2, g3⟩ := h.rec
  have hN := Rel.hN h.1
  have hc := hg.1.2.2.2.1
  have eo : f_X7_orders (bz_wb τ (z + 174) (τ.1 (z + 174))) (z + 173) 2 (nI i) (nI p) = some (0, bz_wb τ' (z + 174) (loseR (τ.1 (z + 174)) i (nI p))) := ord_ok (by rw [mw_2 hN hg.1 hi, if_neg hne]) g2 (mc_2 g3 (show i < 8 by omega) hg.1.2.2.1 (show t < 2 ^ 30 by omega) _)
  have e : f_X7_losePhases (bz_wb τ (z + 174) (τ.1 (z + 174))) (z + 173) (nI i) (nI p) = some (τ.1 (z + 174) (8 + 20 * i + 7), bz_wb τ' (z + 174) (loseR (τ.1 (z + 174)) i (nI p))) := by
    unfold f_X7_losePhases
    rw [m_noY hN hc hg.1.1 hi, bd_n, if_pos rfl, m_in, bd_n, if_neg (nI_pos (by omega)), if_neg (show ¬ (7 : Int32) < nI p from nI_nlt (a := 7) (by omega) (by omega)), if_neg (by decide), m_of7 hN (by omega), bd_n, eo, bd_n, if_pos (by decide)]
  rw [wb_id] at e
  have hsp : SP z τ (bz_wb τ' (z + 174) (loseR (τ.1 (z + 174)) i (nI p))) _ := ⟨τ', g1, rfl⟩
  obtain ⟨σ1, a1, a2⟩ := h.act (sm_losePhases h.1 hk (nI i) (nI p)) e hsp (hg.lose hi hp ht)
  obtain ⟨o1, o2, -⟩ := hsp.out h
  exact ⟨σ1, _, a1, a2, o1, o2⟩
theorem a_loseN (h : WW z k σ τ) (hk : k < 512) (hg : GF (τ.1 (z + 174)) cnt ck t) (hi : i < cnt) {p : Nat} (hp : p ≤ 7) (he : τ.1 (z + 174) (8 + 20 * i + 7) = nI p) : ∃ σ1, f_X6_losePhases σ z (nI i) (nI p) = some (-4, σ1) ∧ WW z (k + 1) σ1 τ := by
  have hN := Rel.hN h.1
  have hc := hg.1.2.2.2.1
  have eo := ord_nn (by rw [mw_2 hN hg.1 hi (nI p), if_pos he])
  have e : f_X7_losePhases (bz_wb τ (z + 174) (τ.1 (z + 174))) (z + 173) (nI i) (nI p) = some (-4, bz_wb τ (z + 174) (τ.1 (z + 174))) := by
    unfold f_X7_losePhases
    rw [m_noY hN hc hg.1.1 hi, bd_n, if_pos rfl, m_in, bd_n, if_neg (nI_pos (by omega)), if_neg (show ¬ (7 : Int32) < nI p from nI_nlt (a := 7) (by omega) (by omega)), if_neg (by decide), m_of7 hN (by omega), bd_n, eo, bd_n, if_neg (by decide)]
  rw [wb_id] at e
  exact h.same (sm_losePhases h.1 hk (nI i) (nI p)) e
theorem a_req (h : WW z k σ τ) (hk : k < 512) (hg : GF (τ.1 (z + 174)) cnt ck t) (hi : i < cnt) (hm : τ.1 (z + 174) (8 + 20 * i + 5) = 0) : ∃ σ1 τ1 r1, f_X6_request σ z (nI i) = some (nI (pcnt r1 i cnt), σ1) ∧ WW z (k + 1) σ1 τ1 ∧ OUT z τ τ1 ∧ GF r1 cnt ck t ∧ τ1.1 (z + 174) = r1 ∧ r1 (8 + 20 * i + 5) = 1 ∧ r1 (8 + 20 * i + 9) = nI ck := by
  obtain ⟨nn, τ', -, -, g1, g2, g3⟩ := h.rec
  have hN := Rel.hN h.1
  have hc := hg.1.2.2.2.1
  have h1 := hg.1.2.1
  have hg2 : GF (upd (upd (τ.1 (z + 174)) (8 + 20 * i + 5) 1) (8 + 20 * i + 9) (nI ck)) cnt ck t := (hg.mode hi (m := 1) (Or.inr rfl)).reqd hi
  have eo : f_X7_orders (bz_wb τ (z + 174) (τ.1 (z + 174))) (z + 173) 0 (nI i) 0 = some (0, bz_wb τ' (z + 174) (upd (upd (τ.1 (z + 174)) (8 + 20 * i + 5) 1) (8 + 20 * i + 9) (nI ck))) := ord_ok (by rw [mw_0 hN hg.1 hi, if_pos hm]) g2 (by rw [← h1]; exact mc_0 g3 (show i < 8 by omega) 0)
  have e : f_X7_request (bz_wb τ (z + 174) (τ.1 (z + 174))) (z + 173) (nI i) = some (nI (pcnt (upd (upd (τ.1 (z + 174)) (8 + 20 * i + 5) 1) (8 + 20 * i + 9) (nI ck)) i cnt), bz_wb τ' (z + 174) (upd (upd (τ.1 (z + 174)) (8 + 20 * i + 5) 1) (8 + 20 * i + 9) (nI ck))) := by
    unfold f_X7_request
    rw [eo, bd_n, if_pos (by decide), m_placeOf g3 hg2.1.1 hc hg2.1.2.1 hg2.1.2.2.2.2.1 hg2.1.2.2.2.2.2.2.2 hi, bd_n]
  rw [wb_id] at e
  have hsp : SP z τ (bz_wb τ' (z + 174) (upd (upd (τ.1 (z + 174)) (8 + 20 * i + 5) 1) (8 + 20 * i + 9) (nI ck))) _ := ⟨τ', g1, rfl⟩
  obtain ⟨σ1, a1, a2⟩ := h.act (sm_request h.1 hk (nI i)) e hsp hg2.gr
  obtain ⟨o1, o2, -⟩ := hsp.out h
  exact ⟨σ1, _, _, a1, a2, o1, hg2, o2, by rw [up_o _ _ (by omega), up_s], up_s _ _ _⟩
theorem a_reqN (h : WW z k σ τ) (hk : k < 512) (hg : GF (τ.1 (z + 174)) cnt ck t) (hi : i < cnt) (hm : ¬ τ.1 (z + 174) (8 + 20 * i + 5) = 0) : ∃ σ1 τ1, f_X6_request σ z (nI i) = some (-3, σ1) ∧ WW z (k + 1) σ1 τ1 ∧ OUT z τ τ1 ∧ τ1.1 (z + 174) = τ.1 (z + 174) ∧ τ1.1 (z + 173) 5 = 1 := by
  have hN := Rel.hN h.1
  have eo := ord_no (by rw [mw_0 hN hg.1 hi 0, if_neg hm]) (Or.inl rfl)
  have e : f_X7_request (bz_wb τ (z + 174) (τ.1 (z + 174))) (z + 173) (nI i) = some (-3, bz_wi (bz_wb τ (z + 174) (τ.1 (z + 174))) (z + 173) 5 1) := by
    unfold f_X7_request
    rw [eo, bd_n, if_neg (by decide)]
  rw [wb_id] at e
  exact a_ref h (sm_request h.1 hk (nI i)) e
end AC
def addR (r : Nat → Int32) (cnt : Nat) (x1 x2 x3 x4 : Int32) : Nat → Int32 := upd (upd (upd (upd (upd (blit (upd r 0 (nI (cnt + 1))) (fun _ => 0) (8 + 20 * cnt) 20) (8 + 20 * cnt + 0) x1) (8 + 20 * cnt + 1) x2) (8 + 20 * cnt + 2) x3) (8 + 20 * cnt + 3) x4) (8 + 20 * cnt + 4) 5
theorem addR_o {r : Nat → Int32} {cnt : Nat} {x1 x2 x3 x4 : Int32} {y : Nat} (h0 : y ≠ 0) (h : y < 8 + 20 * cnt ∨ 8 + 20 * cnt + 20 ≤ y) : addR r cnt x1 x2 x3 x4 y = r y := by
  unfold addR
  rw [up_o _ _ (by omega), up_o _ _ (by omega), up_o _ _ (by omega), up_o _ _ (by omega), up_o _ _ (by omega), blit_out h, up_o _ _ h0]
theorem addR_z {r : Nat → Int32} {cnt w : Nat} {x1 x2 x3 x4 : Int32} (h : 5 ≤ w) (h2 : w < 20) : addR r cnt x1 x2 x3 x4 (8 + 20 * cnt + w) = 0 := by
  unfold addR
  rw [up_o _ _ (by omega), up_o _ _ (by omega), up_o _ _ (by omega), up_o _ _ (by omega), up_o _ _ (by omega), blit_in (by omega) (by omega)]
theorem GF.add {r : Nat → Int32} {cnt ck t ra rm fa li : Nat} (h : GF r cnt ck t) (hc : cnt < 8) (h1 : 1 ≤ ra ∧ ra ≤ 100) (h2 : 2 ≤ rm ∧ rm ≤ 30) (h3 : 2 ≤ fa ∧ fa ≤ 6) (h4 : 100 ≤ li ∧ li ≤ 60000) : GF (addR r cnt (nI ra) (nI rm) (nI fa) (nI li)) (cnt + 1) ck t := by
  obtain ⟨⟨q0, q1, q6, qc, qck, qt, q3, hI0⟩, q4, hM0⟩ := h
  have z0 : addR r cnt (nI ra) (nI rm) (nI fa) (nI li) 0 = nI (cnt + 1) := by
    unfold addR
    rw [up_o _ _ (by omega), up_o _ _ (by omega), up_o _ _ (by omega), up_o _ _ (by omega), up_o _ _ (by omega), blit_out (by omega), up_s]
  have hz := fun (w : Nat) (g1 : 5 ≤ w) (g2 : w < 20) => addR_z (r := r) (cnt := cnt) (x1 := nI ra) (x2 := nI rm) (x3 := nI fa) (x4 := nI li) g1 g2
  refine ⟨⟨z0, by rw [addR_o (by omega) (by omega)]; exact q1, by rw [addR_o (by omega) (by omega)]; exact q6, by omega, qck, qt, by rw [addR_o (by omega) (by omega)]; exact q3, fun i hi => ?_⟩, by rw [addR_o (by omega) (by omega)]; exact q4, fun i hi => ?_⟩
  · by_cases e : i = cnt
    · subst e
      refine ⟨ra, rm, fa, li, 5, 0, 0, 0, 0, 0, 0, ?_, ?_, ?_, ?_, ?_, hz 5 (by omega) (by omega), hz 6 (by omega) (by omega), hz 7 (by omega) (by omega), hz 8 (by omega) (by omega), hz 9 (by omega) (by omega), hz 10 (by omega) (by omega), by omega⟩
      · unfold addR
        rw [up_o _ _ (by omega), up_o _ _ (by omega), up_o _ _ (by omega), up_o _ _ (by omega)]
        exact up_s _ _ _
      · unfold addR
        rw [up_o _ _ (by omega), up_o _ _ (by omega), up_o _ _ (by omega), up_s]
      · unfold addR
        rw [up_o _ _ (by omega), up_o _ _ (by omega), up_s]
      · unfold addR
        rw [up_o _ _ (by omega), up_s]
      · unfold addR
        rw [up_s]
        rfl
    · exact (hI0 i (by omega)).congr fun w hw => addR_o (by omega) (by omega)
  · by_cases e : i = cnt
    · subst e
      refine ⟨?_, fun e => ?_, fun e => ?_, 0, 0, hz 14 (by omega) (by omega), hz 16 (by omega) (by omega), Nat.le_refl _, Nat.zero_le _⟩
      · rw [hz 12 (by omega) (by omega), hz 13 (by omega) (by omega), hz 6 (by omega) (by omega)]
        rfl
      · exact hz 7 (by omega) (by omega)
      · rw [hz 5 (by omega) (by omega)] at e
        exact absurd e (by decide)
    · exact (hM0 i (by omega)).congr fun w hw => addR_o (by omega) (by omega)
theorem a_add {z k cnt ck t ra rm fa li : Nat} {σ τ : bz_W} (h : WW z k σ τ) (hk : k < 512) (hg : GF (τ.1 (z + 174)) cnt ck t) (h1 : 1 ≤ ra ∧ ra ≤ 100) (h2 : 2 ≤ rm ∧ rm ≤ 30) (h3 : 2 ≤ fa ∧ fa ≤ 6) (h4 : 100 ≤ li ∧ li ≤ 60000) : ∃ σ1 τ1, WW z (k + 1) σ1 τ1 ∧ OUT z τ τ1 ∧ ((cnt = 8 ∧ f_X6_addMotor σ z (nI ra) (nI rm) (nI fa) (nI li) = some (-3, σ1) ∧ τ1.1 (z + 173) 5 = 5 ∧ GF (τ1.1 (z + 174)) cnt ck t) ∨ (cnt < 8 ∧ f_X6_addMotor σ z (nI ra) (nI rm) (nI fa) (nI li) = some (nI cnt, σ1) ∧ GF (τ1.1 (z + 174)) (cnt + 1) ck t ∧ τ1.1 (z + 174) (8 + 20 * cnt + 4) = 5)) := by
  obtain ⟨nn, τ', -, -, g1, g2, g3⟩ := h.rec
  have hN := Rel.hN h.1
  have hc := hg.1.2.2.2.1
  have h0 := hg.1.1
  have pre : ∀ (σ : bz_W) (a b : Nat) (x : Nat) (A B : Int32), A = nI a → B = nI b → a ≤ x → x ≤ b → b < 2 ^ 31 → f_X7_in σ (nI x) A B = some (1, σ) := fun σ a b x A B e1 e2 q1 q2 q3 => by
    rw [m_in, e1, e2, if_neg (nI_nlt q1 (by omega)), if_neg (nI_nlt q2 (by omega))]
  have i1 := fun σ => pre σ 1 100 ra 1 100 rfl rfl h1.1 h1.2 (by omega)
  have i2 := fun σ => pre σ 2 30 rm 2 30 rfl rfl h2.1 h2.2 (by omega)
  have i3 := fun σ => pre σ 2 6 fa 2 6 rfl rfl h3.1 h3.2 (by omega)
  have i4 := fun σ => pre σ 100 60000 li 100 60000 rfl rfl h4.1 h4.2 (by omega)
  by_cases h8 : cnt = 8
  · have e : f_X7_addMotor (bz_wb τ (z + 174) (τ.1 (z + 174))) (z + 173) (nI ra) (nI rm) (nI fa) (nI li) = some (-3, bz_wi (bz_wb τ (z + 174) (τ.1 (z + 174))) (z + 173) 5 5) := by
      unfold f_X7_addMotor f_X7_refuse
      rw [i1, bd_n, if_neg (by decide), i2, bd_n, if_neg (by decide), i3, bd_n, if_neg (by decide), i4, bd_n, if_neg (by decide), wb_2, hN, wb_s, if_pos (by rw [h0, h8]; rfl), lt_n, bd_n]
    rw [wb_id] at e
    obtain ⟨σ1, τ1, a1, a2, a3, a4, a5⟩ := a_ref h (sm_addMotor h.1 hk _ _ _ _) e
    exact ⟨σ1, τ1, a2, a3, Or.inl ⟨h8, a1, a5, by rw [a4]; exact hg⟩⟩
  · have hc8 : cnt < 8 := by omega
    have hzl := m_zeroL (τ := τ') (M := z + 173) (N := z + 174) (i := cnt) (r := upd (τ.1 (z + 174)) 0 (nI (cnt + 1))) g3 hc8 (x1 := nI ra) (x2 := nI rm) (x3 := nI fa) (x4 := nI li) (k := fun (σ25 : bz_W) => bd_ (f_X7_put σ25 (z + 173) (nI cnt) 0 (nI ra)) fun _ σ27 => bd_ (f_X7_put σ27 (z + 173) (nI cnt) 1 (nI rm)) fun _ σ29 => bd_ (f_X7_put σ29 (z + 173) (nI cnt) 2 (nI fa)) fun _ σ31 => bd_ (f_X7_put σ31 (z + 173) (nI cnt) 3 (nI li)) fun _ σ33 => bd_ (f_X7_put σ33 (z + 173) (nI cnt) 4 5) fun _ σ35 => some (nI cnt, σ35)) 1100 0 (by omega) (by omega)
    rw [blit_0, nI_0] at hzl
    have e : f_X7_addMotor (bz_wb τ (z + 174) (τ.1 (z + 174))) (z + 173) (nI ra) (nI rm) (nI fa) (nI li) = some (nI cnt, bz_wb τ' (z + 174) (addR (τ.1 (z + 174)) cnt (nI ra) (nI rm) (nI fa) (nI li))) := by
      unfold f_X7_addMotor
      rw [i1, bd_n, if_neg (by decide), i2, bd_n, if_neg (by decide), i3, bd_n, if_neg (by decide), i4, bd_n, if_neg (by decide), wb_2, hN, wb_s, if_neg (by rw [h0]; exact fun e => h8 ((nI_eq (b := 8) (by omega) (by omega)).mp e)), g2, bd_n, lt_n, lt_n, wb_2, g3, wb_s, wi_wb, h0, nI_1, hzl, m_put0 g3 hc8, bd_n, m_put1 g3 hc8, bd_n, m_put2 g3 hc8, bd_n, m_put3 g3 hc8, bd_n, m_put4 g3 hc8, bd_n]
      rfl
    rw [wb_id] at e
    have hsp : SP z τ (bz_wb τ' (z + 174) (addR (τ.1 (z + 174)) cnt (nI ra) (nI rm) (nI fa) (nI li))) _ := ⟨τ', g1, rfl⟩
    have hg2 := hg.add hc8 h1 h2 h3 h4
    obtain ⟨σ1, a1, a2⟩ := h.act (sm_addMotor h.1 hk _ _ _ _) e hsp hg2.gr
    obtain ⟨o1, o2, -⟩ := hsp.out h
    refine ⟨σ1, _, a2, o1, Or.inr ⟨hc8, a1, by rw [o2]; exact hg2, ?_⟩⟩
    rw [o2]
    unfold addR
    rw [up_s]
