/-! undo, keep, restore -/
theorem sm_undo {z k : Nat} {σ τ : bz_W} (h : bz_Rel z k σ τ) (hk : k < 512) : ∃ v σ1 τ1, f_X6_undo σ z  = some (v, σ1) ∧ f_X7_undo τ (z + 173)  = some (v, τ1) ∧ bz_Rel z (k + 1) σ1 τ1 := by
  obtain ⟨hs, n, ⟨hp1, hp2⟩, h2, h3, h4, h5, h6, ⟨hn, n1, n2, hH⟩, h8, h9⟩ := id h
  obtain ⟨hz, ⟨a0, a1, -, -, -, -, a28, -⟩, -, l1, l2, l3, l4⟩ := id h2
  unfold f_X6_undo f_X7_undo f_X1_takeBack
  rw [a1, a0, n1, n2]
  by_cases e : n = 0
  · subst e
    rw [if_neg (by decide), if_pos (show nI 0 = (0 : Int32) from rfl), bd_n, if_pos rfl]
    exact ⟨_, _, _, rfl, rfl, sm_idle h⟩
  · obtain ⟨m, rfl⟩ : ∃ m, n = m + 1 := ⟨n - 1, by omega⟩
    have hm : hs m < 4 := hp1 m (by omega)
    rw [if_pos (show (1 : Int32) ≤ nI (m + 1) from nI_le (a := 1) (by omega) (by omega)), if_neg (nI_ne0 (by omega) (by omega)), lt_n, lt_n, nI_pred, wi_ss, in_nI (by omega) (by omega), ck_n, nI_clamp (by omega), wi_2, a28, l4 m (by omega)]
    have hH' : St (bz_wi σ (z + 28) 1 (nI m)) (z + 30 + 27 * hs m) (fun x => τ.1 (z + 175) (246 * m + x)) (60 * k) (1000 * k) := (hH m (by omega)).keep fun x q1 q2 => wi_o _ _ _ (by omega)
    obtain ⟨σ', g1, g2, g3, g4, g5⟩ := St.copy (σ := bz_wi σ (z + 28) 1 (nI m)) (a := z + 1) l1 (l3 _ hm) (by omega) hH'
    rw [g1, bd_n, bd_n, if_neg (by decide), g2, wi_2, a1, g3 _ (by omega), wi_ss]
    have hl := m_undoL (τ := bz_wi τ (z + 173) 2 (nI m)) (M := z + 173) h3 (n := m) (by omega) (by rw [wi_ss]) (k := (fun (σ10 : bz_W) => some ((σ10.1 (z + 173) 2), σ10))) 1100 0 (by omega) (by omega)
    rw [blit_0, wb_id, nI_0] at hl
    rw [hl]
    clear hl
    have e1 : z + 173 + 1 = z + 174 := by omega
    have e2 : z + 173 + 2 = z + 175 := by omega
    rw [e1, e2, wb_o _ _ (show z + 173 ≠ z + 174 by omega), wi_ss, wi_o _ _ _ (show z + 174 ≠ z + 173 by omega), wi_o _ _ _ (show z + 175 ≠ z + 173 by omega)]
    have fr : ∀ x, (x < z + 1 ∨ z + 28 < x) → σ'.1 x = σ.1 x := fun x hx => by rw [g3 x (by omega), wi_o _ _ _ (by omega)]
    refine ⟨_, _, _, rfl, rfl, sm_idle ⟨hs, m, ⟨hp1, hp2⟩, by rw [g2]; exact h2, h3, ?_, ⟨?_, h5.2.1.keep fun x q1 q2 => fr x (by omega), fun i hi => (h5.2.2 i hi).keep fun x q1 q2 => fr x (by omega)⟩, ?_, ⟨by omega, ?_, ?_, ?_⟩, ?_, ?_⟩⟩
    · rw [wb_s]
      exact g5.congr fun x hx => by rw [blit_in (by omega) (by omega), Nat.sub_zero]
    · exact g4 (h5.1.keep fun x q1 q2 => wi_o _ _ _ (by omega))
    · rw [fr z (by omega), wb_o _ _ (by omega), wi_so _ _ (by omega)]
      exact h6
    · rw [g3 _ (by omega), wi_ss]
    · rw [wb_o _ _ (by omega), wi_ss]
    · rw [wb_o _ _ (by omega), wi_o _ _ _ (by omega)]
      intro j hj
      have := hp1 j (by omega)
      exact (hH j (by omega)).keep fun x q1 q2 => fr x (by omega)
    · unfold Snap at h8 ⊢
      rw [fr z (by omega), wb_o _ _ (by omega), wi_so _ _ (by omega), wb_o _ _ (by omega), wi_o _ _ _ (by omega)]
      rcases h8 with q | ⟨q1, q2, q3⟩
      · exact Or.inl q
      · exact Or.inr ⟨q1, q2, q3.keep fun x q1 q2 => fr x (by omega)⟩
    · unfold Txt at h9 ⊢
      rw [fr _ (by omega), fr _ (by omega), wb_o _ _ (by omega), wi_so _ _ (by omega), wb_o _ _ (by omega), wi_o _ _ _ (by omega)]
      exact h9
theorem sm_keep {z k : Nat} {σ τ : bz_W} (h : bz_Rel z k σ τ) (hk : k < 512) : ∃ v σ1 τ1, f_X6_keep σ z  = some (v, σ1) ∧ f_X7_keep τ (z + 173)  = some (v, τ1) ∧ bz_Rel z (k + 1) σ1 τ1 := by
  obtain ⟨cnt, ck, t, sz, nx, -, -, hN, -, hS, -⟩ := Rel.rd2 h
  obtain ⟨hs, n, ⟨hp1, hp2⟩, h2, h3, h4, h5, h6, ⟨hn, n1, n2, hH⟩, h8, h9⟩ := id h
  obtain ⟨hz, ⟨a0, a1, a2, -, -, -, a28, -⟩, -, l1, l2, l3, l4⟩ := id h2
  unfold f_X6_keep f_X7_keep
  rw [a0, a2]
  obtain ⟨σ', g1, g2, g3, g4, g5⟩ := h4.copy (a := z + 138) l2 l1 (by omega)
  have hl := m_keepL (τ := τ) (M := z + 173) h3 (k := (fun (σ8 : bz_W) => lt_ (bz_wi σ8 (z + 173) 4 1) fun σ9 => some ((σ9.1 (σ9.2 (z + 173) 0) 1), σ9))) 1100 0 (by omega) (by omega)
  rw [blit_0, wb_id, nI_0] at hl
  rw [hl, g1]
  clear hl
  have e1 : z + 173 + 1 = z + 174 := by omega
  have e2 : z + 173 + 3 = z + 176 := by omega
  rw [e1, e2]
  simp only [lt_n, bd_n, wi_2, wb_2, g2, a0, hN]
  rw [wi_o _ _ _ (show z + 1 ≠ z by omega), wi_o _ _ _ (show z + 174 ≠ z + 173 by omega), wb_o _ _ (show z + 174 ≠ z + 176 by omega), g3 _ (by omega), hS.2.1.1, hS.2.1.2]
  have fr : ∀ x, x ≠ z → (x < z + 138 ∨ z + 165 ≤ x) → (bz_wi σ' z 3 1).1 x = σ.1 x := fun x h0 hx => by rw [wi_o _ _ _ h0, g3 x (by omega)]
  refine ⟨_, _, _, rfl, rfl, sm_idle ⟨hs, n, ⟨hp1, hp2⟩, by rw [wi_2, g2]; exact h2, h3, ?_, ⟨h5.1.keep fun x q1 q2 => fr x (by omega) (by omega), ?_, fun i hi => (h5.2.2 i hi).keep fun x q1 q2 => fr x (by omega) (by omega)⟩, ?_, ⟨hn, ?_, ?_, ?_⟩, Or.inr ⟨?_, ?_, ?_⟩, ?_⟩⟩
  · rw [wi_o _ _ _ (by omega), wb_o _ _ (by omega)]
    exact h4.keep fun x q1 q2 => fr x (by omega) (by omega)
  · exact (g4 h5.2.1).keep fun x q1 q2 => wi_o _ _ _ (by omega)
  · rw [wi_so _ _ (by omega), g3 z (by omega), wi_so _ _ (by omega), wb_o _ _ (by omega)]
    exact h6
  · rw [fr _ (by omega) (by omega)]; exact n1
  · rw [wi_so _ _ (by omega), wb_o _ _ (by omega)]; exact n2
  · rw [wi_o _ _ _ (by omega), wb_o _ _ (by omega)]
    intro j hj
    have := hp1 j (by omega)
    exact (hH j hj).keep fun x q1 q2 => fr x (by omega) (by omega)
  · rw [wi_ss]
  · rw [wi_ss]
  · rw [wi_o _ _ _ (by omega), wb_s]
    refine St.keep (σ := σ') ?_ fun x q1 q2 => wi_o _ _ _ (by omega)
    exact g5.congr fun x hx => by rw [blit_in (by omega) (by omega), Nat.sub_zero]
  · unfold Txt at h9 ⊢
    rw [fr _ (by omega) (by omega), fr _ (by omega) (by omega), wi_so _ _ (by omega), wb_o _ _ (by omega), wi_o _ _ _ (by omega), wb_o _ _ (by omega)]
    exact h9
theorem sm_restore {z k : Nat} {σ τ : bz_W} (h : bz_Rel z k σ τ) (hk : k < 512) : ∃ v σ1 τ1, f_X6_restore σ z  = some (v, σ1) ∧ f_X7_restore τ (z + 173)  = some (v, τ1) ∧ bz_Rel z (k + 1) σ1 τ1 := by
  obtain ⟨cnt, ck, t, sz, nx, hz, ⟨a0, a1, a2, -⟩, hN, hL, hS, hI, hr, hck, htt⟩ := Rel.rd2 h
  unfold f_X6_restore f_X7_restore
  have hsn : Snap z (60 * k) (1000 * k) σ τ := by
    obtain ⟨hs, n, -, -, -, -, -, -, -, h8, -⟩ := id h
    exact h8
  rcases hsn with ⟨q1, q2⟩ | ⟨q1, q2, q3⟩
  · rw [q1, q2, if_pos rfl, if_pos rfl]
    exact ⟨_, _, _, rfl, rfl, sm_idle h⟩
  · rw [q1, q2, if_neg (show ¬ (1 : Int32) = 0 by decide), if_neg (show ¬ (1 : Int32) = 0 by decide), a1, a0]
    obtain ⟨σ', τ', g1, g2, g3, hS', er, ⟨b0, b1, b2, -⟩, hN', hL', hr', fc, fm, fm2⟩ := Rel.go h hS hI.1
    obtain ⟨hs, n, -, m2, m3, -, -, -, -, m8, -⟩ := id g3
    have q3' : St σ' (z + 138) (τ'.1 (z + 176)) (60 * k) (1000 * k) := by
      rw [fm _ (by omega) (by omega)]
      exact q3.keep fun x _ _ => fc x (by omega)
    rw [g1, g2, bd_n, bd_n, b0, b2]
    obtain ⟨σ2, f1, f2, f3, f4, f5⟩ := q3'.copy (a := z + 1) hL' m2.2.2.2.2.1 (by omega)
    have hl := m_restL (τ := τ') (M := z + 173) m3 (k := (fun (σ11 : bz_W) => some ((σ11.1 (σ11.2 (z + 173) 0) 1), σ11))) 1100 0 (by omega) (by omega)
    rw [blit_0, wb_id, nI_0] at hl
    rw [hl, f1]
    clear hl
    have e1 : z + 173 + 1 = z + 174 := by omega
    have e2 : z + 173 + 3 = z + 176 := by omega
    rw [e1, e2, bd_n, f2, b0, wb_2, hN', wb_s, blit_in (by omega) (by omega)]
    obtain ⟨c', ck', t', sz', nx', s1, s2, s3, s4⟩ := id f5
    rw [s1.2.1.1, Nat.sub_zero, s1.2.1.2]
    refine ⟨_, _, _, rfl, rfl, ?_⟩
    refine sm_idle (Rel.now g3 ⟨f2, fun x q1 q2 => f3 x (by omega), fun w hw => by rw [f3 z (by omega)], fun i hi => ?_⟩ (FrM.wb z τ' _) ?_ ?_ (Nat.le_refl _) (Nat.le_refl _))
    · have hnm : NmS σ' (z + 1) := by
        obtain ⟨hs, n, -, -, -, -, m5, -⟩ := id g3
        exact m5.1
      rw [f4 hnm i hi, hnm i hi]
    · rw [wb_s]
      exact f5.congr fun x hx => by rw [blit_in (by omega) (by omega), Nat.sub_zero]
    · rw [f3 z (by omega), wb_o _ _ (by omega)]
      exact hr'
