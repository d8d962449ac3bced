/-! readTimetable: the call -/
theorem sm_readTimetable {z k : Nat} {σ τ : bz_W} (h : bz_Rel z k σ τ) (hk : k < 512) : ∃ v σ1 τ1, f_X6_readTimetable σ z  = some (v, σ1) ∧ f_X7_readTimetable τ (z + 173)  = some (v, τ1) ∧ bz_Rel z (k + 1) σ1 τ1 := by
  obtain ⟨cnt, ck, t, sz, nx, hz, ⟨a0, a1, a2, a4, a5, -⟩, hN, hL, hS, hI, hr, hck, htt⟩ := Rel.rd2 h
  obtain ⟨hs, nh, -, h2, h3, -, -, -, -, -, ⟨l, l1, l2, l3, l4⟩⟩ := id h
  have v0 : σ.2 (z + 165) 0 = z + 166 := h2.2.1.2.2.2.2.2.2.2
  have vE := h2.2.2.1
  have m7 : τ.2 (z + 173) 7 = z + 177 := h3.2.2.2.1
  have m10 : τ.2 (z + 173) 10 = z + 178 := h3.2.2.2.2
  unfold f_X6_readTimetable f_X7_readTimetable f_X5_readInto f_X4_empty
  rw [a4, a5, a0, hS.2.1.1, lt_n, lt_n, lt_n, lt_n, lt_n, lt_n, bd_n]
  obtain ⟨σ0, es⟩ : ∃ s, s = bz_wi (bz_wi (bz_wi (bz_wi σ (z + 165) 2 0) (z + 165) 3 0) (z + 167) 4 0) (z + 167) 5 0 := ⟨_, rfl⟩
  obtain ⟨τ0, et⟩ : ∃ s, s = bz_wi (bz_wi τ (z + 173) 8 0) (z + 173) 9 0 := ⟨_, rfl⟩
  rw [← es, ← et]
  have F0 : FE (z + 165) (z + 167) σ σ0 := by
    rw [es]
    exact ⟨rfl, fun x h1 h2 => by rw [wi_o _ _ _ (by omega), wi_o _ _ _ (by omega), wi_o _ _ _ h1, wi_o _ _ _ h1], by rw [wi_o _ _ _ (by omega), wi_o _ _ _ (by omega), wi_so _ _ (by omega), wi_so _ _ (by omega)]⟩
  have K0 : FX (z + 173) (z + 178) τ τ0 := by
    rw [et]
    exact ⟨rfl, fun x h1 h2 => by rw [wi_o _ _ _ h1, wi_o _ _ _ h1], fun w h1 h2 => by rw [wi_so _ _ h2, wi_so _ _ h1]⟩
  have hTS : TS (z + 165) (z + 166) (z + 173) (z + 177) (z + 178) σ0 τ0 l 0 0 0 := ⟨⟨by rw [F0.1]; exact v0, by rw [F0.2.2]; exact l2, by rw [es, wi_o _ _ _ (by omega), wi_o _ _ _ (by omega), wi_so _ _ (by omega), wi_ss, nI_0], by rw [es, wi_o _ _ _ (by omega), wi_o _ _ _ (by omega), wi_ss, nI_0]⟩, ⟨by rw [K0.1]; exact m7, by rw [K0.1]; exact m10, by rw [K0.2.2 6 (by omega) (by omega)]; exact l3, by rw [et, wi_so _ _ (by omega), wi_ss, nI_0], by rw [et, wi_ss, nI_0]⟩, fun _ => rfl, fun q => absurd q (Nat.lt_irrefl 0), by omega, l1, Nat.zero_le _, by omega, fun j hj => by rw [F0.2.1 _ (by omega) (by omega), K0.2.1 _ (by omega) (by omega)]; exact l4 j hj⟩
  have hES : ES (z + 167) ck 0 σ0 (τ0.1 (z + 178)) := ⟨by rw [F0.1]; exact vE, by rw [es, wi_so _ _ (by omega), wi_ss, nI_0], by rw [es, wi_ss], by omega, fun j hj => absurd hj (Nat.not_lt_zero _)⟩
  have hk := loop_read (show z + 165 ≠ z + 166 by omega) (show z + 173 ≠ z + 177 by omega) (show z + 178 ≠ z + 177 by omega) (show z + 173 ≠ z + 178 by omega) (show z + 165 < z + 167 ∨ z + 167 + 4 < z + 165 by omega) (show z + 166 < z + 167 ∨ z + 167 + 4 < z + 166 by omega) (fun (σ17 : bz_W) => some (0, σ17)) (fun (σ16 : bz_W) => bd_ (f_X7_record σ16 (z + 173)) fun _ σ18 => lt_ (bz_wi σ18 (σ18.2 (z + 173) 0) 4 (σ18.1 (z + 173) 9)) fun σ20 => f_X7_readTimetable_L85 (z + 173) (fun (σ33 : bz_W) => some ((σ33.1 (z + 173) 9), σ33)) 1100 0 σ20) 1100 0 0 0 σ0 τ0 hTS (by omega) hES (by omega)
  rw [nI_0] at hk
  rcases hk with ⟨σ1, τ1, p', c1, c2, c3, c4, c5⟩ | ⟨σ1, τ1, n', c1, c2, c3, c4, c5, c6⟩
  · rw [c1, c2, bd_n, if_pos rfl, c4.1, F0.1, a4, c3]
    exact ⟨_, _, _, rfl, rfl, sm_idle (Rel.text h (F0.trans c4) (K0.trans c5))⟩
  · have hR : Rel z (60 * k) (1000 * k) σ1 τ1 := Rel.text h (F0.trans c5) (K0.trans c6)
    have fF := F0.trans c5
    have fK := K0.trans c6
    have er : τ1.1 (z + 174) = τ.1 (z + 174) := fK.2.1 _ (by omega) (by omega)
    have hS1 : RS σ1 (z + 1) (τ1.1 (z + 174)) cnt ck t sz nx := by
      rw [er]
      exact hS.keep hI.1 fun x q1 q2 => fF.2.1 x (by omega) (by omega)
    have hI1 : IS (τ1.1 (z + 174)) cnt ck t sz nx := by rw [er]; exact hI
    obtain ⟨σ2, τ2, g1, g2, g3, hS2, er2, ⟨b0, b1, b2, b4, b5, -⟩, hN2, hL2, hr2, fc, fm, fm2⟩ := Rel.go hR hS1 hI1.1
    have hI2 : IS (τ2.1 (z + 174)) cnt ck t sz nx := by rw [er2]; exact hI1
    have hn10 : n' ≤ 10 := c3.2.2.2.1
    obtain ⟨hs2, nh2, -, k2, k3, -⟩ := id g3
    have hE2 : ES (z + 167) ck n' σ2 (τ2.1 (z + 178)) := by
      rw [fm _ (by omega) (by omega)]
      obtain ⟨u1, u2, u3, u4, u5⟩ := c3
      refine ⟨k2.2.2.1, ?_, ?_, u4, fun j hj => ?_⟩
      · rw [fc _ (by omega)]; exact u2
      · rw [fc _ (by omega)]; exact u3
      · rw [fc _ (by omega), fc _ (by omega), fc _ (by omega), fc _ (by omega)]; exact u5 j hj
    have h92 : τ2.1 (z + 173) 9 = nI n' := by rw [fm2 9 (by omega)]; exact c4
    obtain ⟨σ3, d1, d2, d3, ⟨d4, d5⟩, d6⟩ := c_tcopy (σ := σ2) (e := z + 1 + 18) (f := z + 167) hL2.2.2.2.2.1 k2.2.2.1 (by omega)
    have w4 : σ3.1 (z + 167) 4 = nI n' := by rw [d3 _ (by omega)]; exact hE2.2.1
    have w5 : σ3.1 (z + 167) 5 = 0 := by rw [d3 _ (by omega)]; exact hE2.2.2.1
    have ht := m_tabL (τ := bz_wi τ2 (z + 174) 4 (nI n')) (M := z + 173) (N := z + 174) (D := z + 178) (n := n') (r := upd (τ2.1 (z + 174)) 4 (nI n')) hN2 k3.2.2.2.2 (by rw [wi_o _ _ _ (by omega)]; exact h92) hn10 (by omega) (by omega) (k := (fun (σ33 : bz_W) => some ((σ33.1 (z + 173) 9), σ33))) 1100 0 (by omega) (by omega)
    rw [tabR_0, nI_0, wi_o _ _ _ (show z + 178 ≠ z + 174 by omega)] at ht
    have ew : bz_wb (bz_wi τ2 (z + 174) 4 (nI n')) (z + 174) (upd (τ2.1 (z + 174)) 4 (nI n')) = bz_wi τ2 (z + 174) 4 (nI n') := by
      have := wb_id (bz_wi τ2 (z + 174) 4 (nI n')) (z + 174)
      rw [wi_s] at this
      exact this
    rw [ew] at ht
    rw [c1, c2]
    rw [bd_n, if_neg (show ¬ (1 : Int32) = 0 by decide), fF.1, a1, a0, g1, g2, bd_n, bd_n, b0, hL2.2.1, b5, d1, bd_n, d2, b5, lt_n, hN2, h92, ht, wb_o _ _ (show z + 173 ≠ z + 174 by omega), wi_o _ _ _ (show z + 173 ≠ z + 174 by omega), h92]
    unfold f_X4_left
    rw [bd_n, w4, w5, Int32.sub_zero]
    have hj : ∀ j, j < n' → (σ3.1 (z + 1 + 19) j = nI ck + τ2.1 (z + 178) (4 * j) ∧ σ3.1 (z + 1 + 20) j = τ2.1 (z + 178) (4 * j + 1) ∧ σ3.1 (z + 1 + 21) j = τ2.1 (z + 178) (4 * j + 2) ∧ σ3.1 (z + 1 + 22) j = τ2.1 (z + 178) (4 * j + 3)) ∧ ItD (τ2.1 (z + 178)) j := fun j hj => by
      obtain ⟨y1, y2, y3, y4⟩ := d6 j (by omega)
      obtain ⟨⟨x1, x2, x3, x4⟩, x5⟩ := hE2.2.2.2.2 j hj
      exact ⟨⟨y1.trans x1, y2.trans x2, y3.trans x3, y4.trans x4⟩, x5⟩
    have q4 : σ3.1 (z + 1 + 18) 4 = nI n' ∧ σ3.1 (z + 1 + 18) 5 = nI 0 := ⟨d4.trans hE2.2.1, by rw [d5, nI_0]; exact hE2.2.2.1⟩
    have fin := Rel.table g3 d2 d3 hS2 hI2 hck htt hr2 hn10 q4 hj
    exact ⟨_, _, _, rfl, rfl, sm_idle fin⟩
