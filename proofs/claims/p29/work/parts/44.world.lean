/-! what holds of a bay between the calls; records, undo, keep, restore -/
def GR (r : Nat → Int32) : Prop := ∃ cnt ck t, RF r cnt ck t ∧ r 4 = 0 ∧ ∀ i, i < cnt → MI r ck i
theorem MI.congr {r r' : Nat → Int32} {ck i : Nat} (h : MI r ck i) (hr : ∀ w, w < 20 → r' (8 + 20 * i + w) = r (8 + 20 * i + w)) : MI r' ck i := by
  unfold MI
  rw [hr 12 (by omega), hr 13 (by omega), hr 6 (by omega), hr 5 (by omega), hr 7 (by omega), hr 11 (by omega), hr 14 (by omega), hr 16 (by omega)]
  exact h
theorem MI.mono {r : Nat → Int32} {ck ck' i : Nat} (h : MI r ck i) (hc : ck ≤ ck') : MI r ck' i := by
  obtain ⟨a, b, c, s, t, d, e, f, g⟩ := h
  exact ⟨a, b, c, s, t, d, e, f, by omega⟩
theorem GR.congr {r r' : Nat → Int32} (h : GR r) (hr : ∀ x, x < 246 → r' x = r x) : GR r' := by
  obtain ⟨cnt, ck, t, ⟨h0, h1, h6, hc, hck, ht, h3, hI⟩, h4, hM⟩ := h
  refine ⟨cnt, ck, t, ⟨by rw [hr 0 (by omega)]; exact h0, by rw [hr 1 (by omega)]; exact h1, by rw [hr 6 (by omega)]; exact h6, hc, hck, ht, by rw [hr 3 (by omega)]; exact h3, fun i hi => (hI i hi).congr fun w hw => hr _ (by omega)⟩, by rw [hr 4 (by omega)]; exact h4, fun i hi => (hM i hi).congr fun w hw => hr _ (by omega)⟩
def GA (z : Nat) (τ : bz_W) : Prop := GR (τ.1 (z + 174)) ∧ (∃ n, n ≤ 4 ∧ τ.1 (z + 173) 2 = nI n ∧ ∀ j, j < n → GR (fun x => τ.1 (z + 175) (246 * j + x))) ∧ (τ.1 (z + 173) 4 = 1 → GR (τ.1 (z + 176)))
def WW (z k : Nat) (σ τ : bz_W) : Prop := bz_Rel z k σ τ ∧ GA z τ
theorem WW.wr {z k : Nat} {σ τ : bz_W} (h : WW z k σ τ) (hk : k < 512) : ∃ cnt ck t, WR z k cnt ck t σ τ ∧ τ.1 (z + 174) 4 = 0 ∧ ∀ i, i < cnt → MI (τ.1 (z + 174)) ck i := by
  obtain ⟨h1, ⟨⟨cnt, ck, t, h2, h3, h4⟩, -⟩⟩ := h
  exact ⟨cnt, ck, t, ⟨h1, hk, h2⟩, h3, h4⟩
theorem Rel.lm {z C T : Nat} {σ τ : bz_W} (h : Rel z C T σ τ) : LyM τ.2 (z + 173) := by
  obtain ⟨hs, n, -, -, h3, -⟩ := h
  exact h3
theorem rec_go {τ : bz_W} {M n : Nat} (hL : LyM τ.2 M) (hn : n ≤ 4) (hk : τ.1 M 2 = nI n) : ∃ τ', f_X7_record τ M = some (0, τ') ∧ τ'.2 = τ.2 ∧ (∀ x, x ≠ M → x ≠ M + 2 → τ'.1 x = τ.1 x) ∧ (∀ w, w ≠ 2 → τ'.1 M w = τ.1 M w) ∧ τ'.1 M 2 = nI (min n 3 + 1) ∧ (∀ x, x < 246 → τ'.1 (M + 2) (246 * min n 3 + x) = τ.1 (M + 1) x) ∧ ∀ j, j < min n 3 → ∃ j', j' < n ∧ ∀ x, x < 246 → τ'.1 (M + 2) (246 * j + x) = τ.1 (M + 2) (246 * j' + x) := by
  by_cases h4 : n = 4
  · subst h4
    refine ⟨_, m_record4 hL hk, rfl, fun x h1 h2 => ?_, fun w hw => ?_, ?_, fun x hx => ?_, fun j hj => ⟨j + 1, by omega, fun x hx => ?_⟩⟩
    · rw [wi_o _ _ _ h1, wb_o _ _ h2, wi_o _ _ _ h1, wb_o _ _ h2]
    · rw [wi_so _ _ hw, wb_o _ _ (by omega), wi_so _ _ hw, wb_o _ _ (by omega)]
    · rw [wi_ss]
      rfl
    · rw [wi_o _ _ _ (by omega), wb_s, show 246 * min 4 3 + x = 738 + x from rfl, blit_in (by omega) (by omega), show 738 + x - 738 = x by omega]
    · have hj : j < 3 := hj
      rw [wi_o _ _ _ (by omega), wb_s, blit_out (by omega)]
      unfold shl
      rw [if_pos (by omega), show 246 * j + x + 246 = 246 * (j + 1) + x by omega]
  · refine ⟨_, m_record hL (n := n) (by omega) hk, rfl, fun x h1 h2 => ?_, fun w hw => ?_, ?_, fun x hx => ?_, fun j hj => ⟨j, by omega, fun x hx => ?_⟩⟩
    · rw [wi_o _ _ _ h1, wb_o _ _ h2]
    · rw [wi_so _ _ hw, wb_o _ _ (by omega)]
    · rw [wi_ss, show min n 3 = n by omega]
    · rw [wi_o _ _ _ (by omega), wb_s, show min n 3 = n by omega, blit_in (by omega) (by omega), show 246 * n + x - 246 * n = x by omega]
    · rw [wi_o _ _ _ (by omega), wb_s, blit_out (by omega)]
/-- an act: the state that was is recorded, the row is r1 then -/
def SP (z : Nat) (τ τ1 : bz_W) (r1 : Nat → Int32) : Prop := ∃ τ', f_X7_record τ (z + 173) = some (0, τ') ∧ τ1 = bz_wb τ' (z + 174) r1
/-- what an act leaves: the row, the count, the state on top -/
def TP (z n : Nat) (τ τ1 : bz_W) (r1 : Nat → Int32) : Prop := τ1.1 (z + 174) = r1 ∧ τ1.1 (z + 173) 2 = nI (min n 3 + 1) ∧ (∀ x, x < 246 → τ1.1 (z + 175) (246 * min n 3 + x) = τ.1 (z + 174) x) ∧ τ1.1 (z + 173) 5 = τ.1 (z + 173) 5 ∧ τ1.1 (z + 173) 4 = τ.1 (z + 173) 4 ∧ τ1.1 (z + 176) = τ.1 (z + 176)
theorem SP.tp {z n : Nat} {τ τ1 : bz_W} {r1 : Nat → Int32} (h : SP z τ τ1 r1) (hL : LyM τ.2 (z + 173)) (hn : n ≤ 4) (hk : τ.1 (z + 173) 2 = nI n) : TP z n τ τ1 r1 := by
  obtain ⟨τ', e1, rfl⟩ := h
  obtain ⟨τ2, g1, g2, g3, g4, g5, g6, g7⟩ := rec_go hL hn hk
  obtain ⟨-, rfl⟩ := Prod.mk.inj (Option.some.inj (e1.symm.trans g1))
  refine ⟨wb_s _ _ _, by rw [wb_o _ _ (by omega)]; exact g5, fun x hx => by rw [wb_o _ _ (by omega)]; exact g6 x hx, by rw [wb_o _ _ (by omega)]; exact g4 5 (by omega), by rw [wb_o _ _ (by omega)]; exact g4 4 (by omega), by rw [wb_o _ _ (by omega)]; exact g3 _ (by omega) (by omega)⟩
theorem SP.ga {z : Nat} {τ τ1 : bz_W} {r1 : Nat → Int32} (h : SP z τ τ1 r1) (hL : LyM τ.2 (z + 173)) (hG : GA z τ) (hr : GR r1) : GA z τ1 := by
  obtain ⟨h0, ⟨n, hn, hk, hh⟩, hs⟩ := hG
  obtain ⟨τ', e1, rfl⟩ := h
  obtain ⟨τ2, g1, g2, g3, g4, g5, g6, g7⟩ := rec_go hL hn hk
  obtain ⟨-, rfl⟩ := Prod.mk.inj (Option.some.inj (e1.symm.trans g1))
  refine ⟨by rw [wb_s]; exact hr, ⟨min n 3 + 1, by omega, by rw [wb_o _ _ (by omega)]; exact g5, fun j hj => ?_⟩, fun e => ?_⟩
  · rw [wb_o _ _ (by omega)]
    by_cases hjn : j = min n 3
    · rw [hjn]
      exact h0.congr fun x hx => g6 x hx
    · obtain ⟨j', hj', e⟩ := g7 j (by omega)
      exact (hh j' hj').congr fun x hx => e x hx
  · rw [wb_o _ _ (by omega), g3 _ (by omega) (by omega)]
    rw [wb_o _ _ (by omega), g4 4 (by omega)] at e
    exact hs e
theorem WW.act {z k : Nat} {σ τ τ1 : bz_W} {r1 : Nat → Int32} (h : WW z k σ τ) {f g : Option (Int32 × bz_W)} {v : Int32} (hs : ∃ v σ1 τ1, f = some (v, σ1) ∧ g = some (v, τ1) ∧ bz_Rel z (k + 1) σ1 τ1) (hg : g = some (v, τ1)) (hp : SP z τ τ1 r1) (hr : GR r1) : ∃ σ1, f = some (v, σ1) ∧ WW z (k + 1) σ1 τ1 := by
  obtain ⟨σ1, e1, e2⟩ := act_go hs hg
  exact ⟨σ1, e1, e2, hp.ga (Rel.lm h.1) h.2 hr⟩
/-- nothing but the reason changes -/
theorem WW.ref {z k : Nat} {σ τ : bz_W} (h : WW z k σ τ) {f g : Option (Int32 × bz_W)} {v x : Int32} (hs : ∃ v σ1 τ1, f = some (v, σ1) ∧ g = some (v, τ1) ∧ bz_Rel z (k + 1) σ1 τ1) (hg : g = some (v, bz_wi τ (z + 173) 5 x)) : ∃ σ1, f = some (v, σ1) ∧ WW z (k + 1) σ1 (bz_wi τ (z + 173) 5 x) := by
  obtain ⟨σ1, e1, e2⟩ := act_go hs hg
  refine ⟨σ1, e1, e2, ?_⟩
  obtain ⟨h0, ⟨n, hn, hk, hh⟩, hs⟩ := h.2
  refine ⟨by rw [wi_o _ _ _ (by omega)]; exact h0, ⟨n, hn, by rw [wi_so _ _ (by omega)]; exact hk, fun j hj => by rw [wi_o _ _ _ (by omega)]; exact hh j hj⟩, fun e => ?_⟩
  rw [wi_so _ _ (by omega)] at e
  rw [wi_o _ _ _ (by omega)]
  exact hs e
theorem WW.same {z k : Nat} {σ τ : bz_W} (h : WW z k σ τ) {f g : Option (Int32 × bz_W)} {v : Int32} (hs : ∃ v σ1 τ1, f = some (v, σ1) ∧ g = some (v, τ1) ∧ bz_Rel z (k + 1) σ1 τ1) (hg : g = some (v, τ)) : ∃ σ1, f = some (v, σ1) ∧ WW z (k + 1) σ1 τ := by
  obtain ⟨σ1, e1, e2⟩ := act_go hs hg
  exact ⟨σ1, e1, e2, h.2⟩
theorem WW.mono {z k k' : Nat} {σ τ : bz_W} (h : WW z k σ τ) (hk : k ≤ k') : WW z k' σ τ := ⟨Rel.mono h.1 (by omega) (by omega), h.2⟩
theorem ww_undo {z k n : Nat} {σ τ : bz_W} (h : WW z k σ τ) (hk : k < 512) (hn : n < 4) (hc : τ.1 (z + 173) 2 = nI (n + 1)) : ∃ σ1 τ1, f_X6_undo σ z = some (nI n, σ1) ∧ WW z (k + 1) σ1 τ1 ∧ ∀ x, x < 246 → τ1.1 (z + 174) x = τ.1 (z + 175) (246 * n + x) := by
  have hL := Rel.lm h.1
  have hl := m_undoL (τ := bz_wi τ (z + 173) 2 (nI n)) (M := z + 173) hL (n := n) (by omega) (by rw [wi_ss]) (k := (fun (σ10 : bz_W) => some ((σ10.1 (z + 173) 2), σ10))) 1100 0 (by omega) (by omega)
  rw [blit_0, wb_id, nI_0] at hl
  have e1 : z + 173 + 1 = z + 174 := by omega
  have e2 : z + 173 + 2 = z + 175 := by omega
  have hg : f_X7_undo τ (z + 173) = some (nI n, bz_wb (bz_wi τ (z + 173) 2 (nI n)) (z + 174) (blit (τ.1 (z + 174)) (fun x => τ.1 (z + 175) (246 * n + x)) 0 246)) := by
    unfold f_X7_undo
    rw [hc, if_neg (nI_ne0 (by omega) (by omega)), lt_n, nI_pred, hl, e1, e2, wb_o _ _ (show z + 173 ≠ z + 174 by omega), wi_ss, wi_o _ _ _ (show z + 174 ≠ z + 173 by omega), wi_o _ _ _ (show z + 175 ≠ z + 173 by omega)]
  obtain ⟨σ1, a1, a2⟩ := act_go (sm_undo h.1 hk) hg
  have hrow : ∀ x, x < 246 → blit (τ.1 (z + 174)) (fun x => τ.1 (z + 175) (246 * n + x)) 0 246 x = τ.1 (z + 175) (246 * n + x) := fun x hx => by rw [blit_in (by omega) (by omega), Nat.sub_zero]
  obtain ⟨h0, ⟨n2, hn2, hk2, hh⟩, hs⟩ := h.2
  obtain rfl : n + 1 = n2 := (nI_eq (by omega) (by omega)).mp (hc.symm.trans hk2)
  refine ⟨σ1, _, a1, ⟨a2, ?_, ⟨n, by omega, ?_, fun j hj => ?_⟩, fun e => ?_⟩, fun x hx => ?_⟩
  · rw [wb_s]
    exact (hh n (by omega)).congr hrow
  · rw [wb_o _ _ (by omega), wi_ss]
  · rw [wb_o _ _ (by omega), wi_o _ _ _ (by omega)]
    exact hh j (by omega)
  · rw [wb_o _ _ (by omega), wi_o _ _ _ (by omega)]
    rw [wb_o _ _ (by omega), wi_so _ _ (by omega)] at e
    exact hs e
  · rw [wb_s]
    exact hrow x hx
theorem ww_keep {z k : Nat} {σ τ : bz_W} (h : WW z k σ τ) (hk : k < 512) : ∃ σ1 τ1, f_X6_keep σ z = some (τ.1 (z + 174) 1, σ1) ∧ WW z (k + 1) σ1 τ1 ∧ τ1.1 (z + 174) = τ.1 (z + 174) ∧ τ1.1 (z + 173) 4 = 1 ∧ ∀ x, x < 246 → τ1.1 (z + 176) x = τ.1 (z + 174) x := by
  have hL := Rel.lm h.1
  have hN := Rel.hN h.1
  have hl := m_keepL (τ := τ) (M := z + 173) hL (k := (fun (σ8 : bz_W) => lt_ (bz_wi σ8 (z + 173) 4 1) fun σ9 => some ((σ9.1 (σ9.2 (z + 173) 0) 1), σ9))) 1100 0 (by omega) (by omega)
  rw [blit_0, wb_id, nI_0] at hl
  have e1 : z + 173 + 1 = z + 174 := by omega
  have e3 : z + 173 + 3 = z + 176 := by omega
  have hg : f_X7_keep τ (z + 173) = some (τ.1 (z + 174) 1, bz_wi (bz_wb τ (z + 176) (blit (τ.1 (z + 176)) (τ.1 (z + 174)) 0 246)) (z + 173) 4 1) := by
    unfold f_X7_keep
    rw [hl, e1, e3, lt_n, wi_2, wb_2, hN, wi_o _ _ _ (by omega), wb_o _ _ (by omega)]
  obtain ⟨σ1, a1, a2⟩ := act_go (sm_keep h.1 hk) hg
  have hrow : ∀ x, x < 246 → blit (τ.1 (z + 176)) (τ.1 (z + 174)) 0 246 x = τ.1 (z + 174) x := fun x hx => by rw [blit_in (by omega) (by omega), Nat.sub_zero]
  obtain ⟨h0, ⟨n2, hn2, hk2, hh⟩, hs⟩ := h.2
  refine ⟨σ1, _, a1, ⟨a2, ?_, ⟨n2, hn2, ?_, fun j hj => ?_⟩, fun e => ?_⟩, ?_, ?_, fun x hx => ?_⟩
  · rw [wi_o _ _ _ (by omega), wb_o _ _ (by omega)]
    exact h0
  · rw [wi_so _ _ (by omega), wb_o _ _ (by omega)]
    exact hk2
  · rw [wi_o _ _ _ (by omega), wb_o _ _ (by omega)]
    exact hh j hj
  · rw [wi_o _ _ _ (by omega), wb_s]
    exact h0.congr hrow
  · rw [wi_o _ _ _ (by omega), wb_o _ _ (by omega)]
  · rw [wi_ss]
  · rw [wi_o _ _ _ (by omega), wb_s]
    exact hrow x hx
theorem ww_restore {z k : Nat} {σ τ : bz_W} (h : WW z k σ τ) (hk : k < 512) (hf : τ.1 (z + 173) 4 = 1) : ∃ σ1 τ1, f_X6_restore σ z = some (τ.1 (z + 176) 1, σ1) ∧ WW z (k + 1) σ1 τ1 ∧ (∀ x, x < 246 → τ1.1 (z + 174) x = τ.1 (z + 176) x) ∧ ∀ x, 246 ≤ x → τ1.1 (z + 174) x = τ.1 (z + 174) x := by
  have hL := Rel.lm h.1
  have hN := Rel.hN h.1
  obtain ⟨h0, ⟨n, hn, hk2, hh⟩, hs⟩ := id h.2
  obtain ⟨τ', g1, g2, g3, g4, g5, g6, g7⟩ := rec_go hL hn hk2
  have e1 : z + 173 + 1 = z + 174 := by omega
  have e3 : z + 173 + 3 = z + 176 := by omega
  have hl := m_restL (τ := τ') (M := z + 173) (by rw [g2]; exact hL) (k := (fun (σ11 : bz_W) => some ((σ11.1 (σ11.2 (z + 173) 0) 1), σ11))) 1100 0 (by omega) (by omega)
  rw [blit_0, wb_id, nI_0, e1, e3] at hl
  have hrow : ∀ x, x < 246 → blit (τ'.1 (z + 174)) (τ'.1 (z + 176)) 0 246 x = τ.1 (z + 176) x := fun x hx => by rw [blit_in (by omega) (by omega), Nat.sub_zero, g3 _ (by omega) (by omega)]
  have hg : f_X7_restore τ (z + 173) = some (τ.1 (z + 176) 1, bz_wb τ' (z + 174) (blit (τ'.1 (z + 174)) (τ'.1 (z + 176)) 0 246)) := by
    unfold f_X7_restore
    rw [hf, if_neg (by decide), g1, bd_n, hl, wb_2, g2, hN, wb_s, hrow 1 (by omega)]
  obtain ⟨σ1, a1, a2⟩ := h.act (sm_restore h.1 hk) hg ⟨τ', g1, rfl⟩ ((hs hf).congr hrow)
  exact ⟨σ1, _, a1, a2, fun x hx => by rw [wb_s]; exact hrow x hx, fun x hx => by rw [wb_s, blit_out (by omega), g3 _ (by omega) (by omega)]⟩
