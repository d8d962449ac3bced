/-! checking an order; the calls that give one -/
def CK (z : Nat) (σ τ : bz_W) (r : Nat → Int32) (x1 x2 x3 y3 : Int32) (OK : Prop) : Prop := ∃ w, f_X7_wrongIn (bz_wb τ (z + 174) r) (z + 173) x1 x2 y3 = some (w, bz_wb τ (z + 174) r) ∧ ((w = 0 ∧ f_X6_checkOrder σ z x1 x2 x3 = some (0, σ) ∧ OK) ∨ (w = -1 ∧ f_X6_checkOrder σ z x1 x2 x3 = some (-1, σ)) ∨ (w = -4 ∧ f_X6_checkOrder σ z x1 x2 x3 = some (-4, σ)) ∨ ((w = 1 ∨ w = 2 ∨ w = 4) ∧ f_X6_checkOrder σ z x1 x2 x3 = some (-3, bz_wi σ z 7 w)))
section CK
variable {σ τ : bz_W} {z i cnt ck t sz nx : Nat} {r : Nat → Int32}
theorem c_refuse (σ : bz_W) (z : Nat) (x : Int32) : bd_ (f_X6_refuse σ z x) (fun r7 σ8 => some (r7, σ8)) = some (-3, bz_wi σ z 7 x) := by
  unfold f_X6_refuse
  rw [lt_n, bd_n]
theorem ckN (h : NW z σ r cnt ck t sz nx) (hN : τ.2 (z + 173) 0 = z + 174) {x1 x2 : Int32} (h4 : ¬ x1 = 4) (hx : x2 < 0 ∨ nI cnt ≤ x2) (x3 y3 : Int32) : CK z σ τ r x1 x2 x3 y3 False := by
  refine ⟨-1, ?_, Or.inr (Or.inl ⟨rfl, ?_⟩)⟩
  · unfold f_X7_wrongIn
    rw [if_neg h4, m_noN hN h.2.2.2.2.1.1 h.2.2.2.1.1.2 hx, bd_n, if_neg (by decide)]
  · unfold f_X6_checkOrder
    rw [if_neg h4, h.2.2.2.2.2.1, c_findN h.2.2.2.2.1.1 h.2.2.2.1.1.1 hx, bd_n, if_pos rfl]
theorem ck0 (h : NW z σ r cnt ck t sz nx) (hN : τ.2 (z + 173) 0 = z + 174) (hi : i < cnt) (x3 y3 : Int32) : CK z σ τ r 0 (nI i) x3 y3 (r (8 + 20 * i + 5) = 0) := by
  have hi8 : i < 8 := by have := h.2.2.2.2.1.1; omega
  have hR := h.2.2.2.1.2.2.2.2.2.1 i hi
  unfold CK f_X7_wrongIn f_X6_checkOrder
  rw [if_neg (show ¬ (0 : Int32) = 4 by decide), if_neg (show ¬ (0 : Int32) = 4 by decide), h.2.2.2.2.2.1, h.find hi, m_noY hN h.2.2.2.2.1.1 h.2.2.2.1.1.2 hi, bd_n, bd_n, if_pos rfl, m_of5 hN hi8, bd_n, if_pos rfl, if_neg (q_ne z i), if_pos rfl, ← hR.2.2.2.2.2.1, c_refuse]
  by_cases e : r (8 + 20 * i + 5) = 0
  · rw [if_pos e, if_pos e]
    exact ⟨0, rfl, Or.inl ⟨rfl, rfl, e⟩⟩
  · rw [if_neg e, if_neg e]
    exact ⟨1, rfl, Or.inr (Or.inr (Or.inr ⟨Or.inl rfl, rfl⟩))⟩
theorem ck1 (h : NW z σ r cnt ck t sz nx) (hN : τ.2 (z + 173) 0 = z + 174) (hi : i < cnt) (x3 y3 : Int32) : CK z σ τ r 1 (nI i) x3 y3 True := by
  have hi8 : i < 8 := by have := h.2.2.2.2.1.1; omega
  have hR := h.2.2.2.1.2.2.2.2.2.1 i hi
  unfold CK f_X7_wrongIn f_X6_checkOrder
  rw [if_neg (show ¬ (1 : Int32) = 4 by decide), if_neg (show ¬ (1 : Int32) = 4 by decide), h.2.2.2.2.2.1, h.find hi, m_noY hN h.2.2.2.2.1.1 h.2.2.2.1.1.2 hi, bd_n, bd_n, if_pos rfl, m_of5 hN hi8, bd_n, if_neg (show ¬ (1 : Int32) = 0 by decide), if_pos rfl, if_neg (q_ne z i), if_neg (show ¬ (1 : Int32) = 0 by decide), if_pos rfl, lt_n]
  dsimp only
  rw [← hR.2.2.2.2.2.1, c_refuse]
  by_cases e : r (8 + 20 * i + 5) = 0
  · rw [if_pos e, if_pos e]
    exact ⟨1, rfl, Or.inr (Or.inr (Or.inr ⟨Or.inl rfl, rfl⟩))⟩
  · rw [if_neg e, if_neg e]
    by_cases e4 : r (8 + 20 * i + 5) = 4
    · rw [if_pos e4, if_pos e4]
      exact ⟨1, rfl, Or.inr (Or.inr (Or.inr ⟨Or.inl rfl, rfl⟩))⟩
    · rw [if_neg e4, if_neg e4]
      exact ⟨0, rfl, Or.inl ⟨rfl, rfl, trivial⟩⟩
theorem ck2 (h : NW z σ r cnt ck t sz nx) (hN : τ.2 (z + 173) 0 = z + 174) (hi : i < cnt) {p : Nat} (hp : p ≤ 7) : CK z σ τ r 2 (nI i) (nI p) (nI p) True := by
  have hi8 : i < 8 := by have := h.2.2.2.2.1.1; omega
  have hR := h.2.2.2.1.2.2.2.2.2.1 i hi
  unfold CK f_X7_wrongIn f_X6_checkOrder f_X6_checkLoss f_X6_isOutside
  rw [if_neg (show ¬ (2 : Int32) = 4 by decide), if_neg (show ¬ (2 : Int32) = 4 by decide), h.2.2.2.2.2.1, h.find hi, m_noY hN h.2.2.2.2.1.1 h.2.2.2.1.1.2 hi, bd_n, bd_n, if_pos rfl, m_of5 hN hi8, bd_n, if_neg (show ¬ (2 : Int32) = 0 by decide), if_neg (show ¬ (2 : Int32) = 1 by decide), if_pos rfl, if_neg (q_ne z i), if_neg (show ¬ (2 : Int32) = 0 by decide), if_neg (show ¬ (2 : Int32) = 1 by decide), if_pos rfl, m_of7 hN hi8, bd_n, if_neg (nI_pos (n := p) (by omega)), if_pos (show nI p ≤ 7 from nI_le (b := 7) hp (by omega)), bd_n, if_pos rfl, ← hR.2.2.2.2.2.2.2.1]
  by_cases e : nI p = r (8 + 20 * i + 7)
  · rw [if_pos e, if_pos e.symm, bd_n]
    exact ⟨-4, rfl, Or.inr (Or.inr (Or.inl ⟨rfl, rfl⟩))⟩
  · rw [if_neg e, if_neg (fun q => e q.symm), bd_n]
    exact ⟨0, rfl, Or.inl ⟨rfl, rfl, trivial⟩⟩
theorem ck3 (h : NW z σ r cnt ck t sz nx) (hN : τ.2 (z + 173) 0 = z + 174) (hi : i < cnt) (x3 y3 : Int32) : CK z σ τ r 3 (nI i) x3 y3 True := by
  have hi8 : i < 8 := by have := h.2.2.2.2.1.1; omega
  obtain ⟨q2, q3, q4, q5, q7, q8, q9, q10, -⟩ := h.2.2.2.1.2.2.2.2.2.1 i hi
  unfold CK f_X7_wrongIn f_X6_checkOrder f_X6_checkReset
  rw [if_neg (show ¬ (3 : Int32) = 4 by decide), if_neg (show ¬ (3 : Int32) = 4 by decide), h.2.2.2.2.2.1, h.find hi, m_noY hN h.2.2.2.2.1.1 h.2.2.2.1.1.2 hi, bd_n, bd_n, if_pos rfl, m_of5 hN hi8, bd_n, if_neg (show ¬ (3 : Int32) = 0 by decide), if_neg (show ¬ (3 : Int32) = 1 by decide), if_neg (show ¬ (3 : Int32) = 2 by decide), if_neg (q_ne z i), if_neg (show ¬ (3 : Int32) = 0 by decide), if_neg (show ¬ (3 : Int32) = 1 by decide), if_neg (show ¬ (3 : Int32) = 2 by decide), c_refuse, c_refuse, c_refuse, ← q8, ← q10, ← q9, ← q5]
  simp only [m_of7 hN hi8, m_of6 hN hi8, m_of3 hN hi8, bd_n]
  by_cases e : r (8 + 20 * i + 5) = 4
  · rw [if_pos e, if_pos e]
    by_cases e2 : r (8 + 20 * i + 7) = 0
    · rw [if_pos e2, if_pos e2]
      by_cases e3 : r (8 + 20 * i + 6) ≤ r (8 + 20 * i + 3) / 2
      · rw [if_pos e3, if_pos e3, bd_n]
        exact ⟨0, rfl, Or.inl ⟨rfl, rfl, trivial⟩⟩
      · rw [if_neg e3, if_neg e3, bd_n]
        exact ⟨2, rfl, Or.inr (Or.inr (Or.inr ⟨Or.inr (Or.inl rfl), rfl⟩))⟩
    · rw [if_neg e2, if_neg e2, bd_n]
      exact ⟨4, rfl, Or.inr (Or.inr (Or.inr ⟨Or.inr (Or.inr rfl), rfl⟩))⟩
  · rw [if_neg e, if_neg e, bd_n]
    exact ⟨1, rfl, Or.inr (Or.inr (Or.inr ⟨Or.inl rfl, rfl⟩))⟩
theorem ck4 (h : NW z σ r cnt ck t sz nx) (hN : τ.2 (z + 173) 0 = z + 174) {x : Int32} (hx : x = 0 ∨ x = 1) (x3 y3 : Int32) : CK z σ τ r 4 x x3 y3 True := by
  have e3 := h.2.2.2.1.2.2.1.2.1
  unfold CK f_X7_wrongIn f_X6_checkOrder
  rw [if_pos rfl, if_pos rfl, h.2.2.2.2.2.1, wb_2, hN, wb_s, ← e3]
  by_cases e : r 3 = x
  · rw [if_pos e]
    refine ⟨-4, rfl, Or.inr (Or.inr (Or.inl ⟨rfl, ?_⟩))⟩
    rcases hx with rfl | rfl
    · rw [if_neg (by decide), if_pos e.symm]
    · rw [if_pos rfl, if_pos e.symm]
  · rw [if_neg e]
    refine ⟨0, rfl, Or.inl ⟨rfl, ?_, trivial⟩⟩
    rcases hx with rfl | rfl
    · rw [if_neg (by decide), if_neg (fun q => e q.symm)]
    · rw [if_pos rfl, if_neg (fun q => e q.symm)]
theorem Rel.nw {C T : Nat} (h : Rel z C T σ τ) : ∃ cnt ck t sz nx, NW z σ (τ.1 (z + 174)) cnt ck t sz nx ∧ τ.2 (z + 173) 0 = z + 174 ∧ σ.2 z 1 = z + 28 ∧ σ.1 z 7 = τ.1 (z + 173) 5 ∧ ck ≤ C ∧ t ≤ T := by
  obtain ⟨cnt, ck, t, sz, nx, hz, ⟨a0, a1, -, -, -, a6⟩, hN, hL, hS, hI, hr, hck, htt⟩ := Rel.rd2 h
  obtain ⟨hs, n, -, -, -, -, h5, -⟩ := h
  exact ⟨cnt, ck, t, sz, nx, ⟨hz, hL, h5.1, hS, hI, a0, a6⟩, hN, a1, hr, hck, htt⟩
theorem call_both {C T : Nat} (h : Rel z C T σ τ) (hw : NW z σ (τ.1 (z + 174)) cnt ck t sz nx) (hck : ck ≤ C) (htt : t ≤ T) {x1 x2 x3 y3 : Int32} {OK : Prop} {VP : Int32 → (Nat → Int32) → Prop} (hc : CK z σ τ (τ.1 (z + 174)) x1 x2 x3 y3 OK) (co : ∀ σ' τ' : bz_W, NW z σ' (τ.1 (z + 174)) cnt ck t sz nx → τ'.2 (z + 173) 0 = z + 174 → OK → ∃ v, CO z σ' τ' (τ.1 (z + 174)) cnt ck t sz nx x1 x2 x3 y3 v (VP v)) : ∃ c o σ' τ', f_X6_callOrder σ z x1 x2 x3 = some (c, σ') ∧ f_X7_orders τ (z + 173) x1 x2 y3 = some (o, τ') ∧ Rel z C (T + 1) σ' τ' ∧ ((c = o ∧ ¬ 0 ≤ o) ∨ (o = 0 ∧ VP c (τ'.1 (z + 174)) ∧ OK)) := by
  obtain ⟨-, -, -, -, -, -, hN, a1, hr, -⟩ := Rel.nw h
  obtain ⟨w, g1, g2⟩ := hc
  rw [wb_id] at g1
  have a0 := hw.2.2.2.2.2.1
  unfold f_X6_callOrder f_X7_orders
  rw [g1, bd_n]
  rcases g2 with ⟨rfl, g2, hok⟩ | ⟨rfl, g2⟩ | ⟨rfl, g2⟩ | ⟨hw4, g2⟩
  · rw [g2, bd_n, if_pos rfl, if_pos (by decide), if_pos (by decide), a0, a1]
    obtain ⟨σ', τ', f1, f2, f3, hS', er, ⟨b0, -, -, -, -, b6⟩, hN', hL', hr', -⟩ := Rel.go h hw.2.2.2.1 hw.2.2.2.2.1.1
    have hnm : NmS σ' (z + 1) := by
      obtain ⟨hs, n, -, -, -, -, m5, -⟩ := id f3
      exact m5.1
    rw [er] at hS'
    obtain ⟨v, σ2, r', t', d1, d2, d3, d4, d5, d6, d7⟩ := co σ' τ' ⟨hw.1, hL', hnm, hS', hw.2.2.2.2.1, b0, b6⟩ hN' hok
    rw [← er, wb_id] at d2
    rw [f1, f2, bd_n, bd_n, d1, d2, bd_n, bd_n]
    refine ⟨v, 0, _, _, rfl, rfl, ?_, Or.inr ⟨rfl, by rw [wb_s]; exact d7, hok⟩⟩
    refine Rel.now f3 d3 (FrM.wb z τ' r') ?_ ?_ (Nat.le_refl _) (by omega)
    · rw [wb_s]
      exact ⟨cnt, ck, t', sz, nx, d5.2.2.2.1, d5.2.2.2.2.1, hck, by omega⟩
    · rw [d4, wb_o _ _ (by omega)]
      exact hr'
  · rw [g2, bd_n, if_neg (by decide), if_pos (by decide), if_neg (by decide)]
    exact ⟨_, _, _, _, rfl, rfl, h.mono (Nat.le_refl _) (by omega), Or.inl ⟨rfl, by decide⟩⟩
  · rw [g2, bd_n, if_neg (by decide), if_pos (by decide), if_neg (by decide)]
    exact ⟨_, _, _, _, rfl, rfl, h.mono (Nat.le_refl _) (by omega), Or.inl ⟨rfl, by decide⟩⟩
  · have e : ¬ w ≤ 0 := by rcases hw4 with rfl | rfl | rfl <;> decide
    rw [g2, bd_n, if_neg (by decide), if_neg e]
    unfold f_X7_refuse
    rw [lt_n, bd_n]
    exact ⟨_, _, _, _, rfl, rfl, (h.refuse w).mono (Nat.le_refl _) (by omega), Or.inl ⟨rfl, by decide⟩⟩
end CK
theorem sm_next {z k : Nat} {σ τ : bz_W} (h : Rel z (60 * k) (1000 * k + 1) σ τ) : bz_Rel z (k + 1) σ τ := Rel.mono h (by omega) (by omega)
theorem sm_stop {z k : Nat} {σ τ : bz_W} (h : bz_Rel z k σ τ) (hk : k < 512) (x1 : Int32) : ∃ v σ1 τ1, f_X6_stop σ z x1 = some (v, σ1) ∧ f_X7_stop τ (z + 173) x1 = some (v, τ1) ∧ bz_Rel z (k + 1) σ1 τ1 := by
  obtain ⟨cnt, ck, t, sz, nx, hw, hN, a1, hr, hck, htt⟩ := Rel.nw h
  have hc := hw.2.2.2.2.1.1
  have ew : τ = bz_wb τ (z + 174) (τ.1 (z + 174)) := (wb_id τ (z + 174)).symm
  unfold f_X6_stop f_X7_stop
  rcases (show (x1 < 0 ∨ nI cnt ≤ x1) ∨ ∃ j : Nat, j < cnt ∧ x1 = nI j by rcases pk_ix x1 (n := cnt) (by omega) with q | q | q; exact Or.inl (Or.inl q); exact Or.inl (Or.inr q); exact Or.inr q) with h1 | ⟨i, hi, rfl⟩
  · have e1 : f_X7_noMotor τ (z + 173) x1 = some (1, τ) := by
      have := m_noN (τ := τ) hN hc hw.2.2.2.1.1.2 h1
      rw [← ew] at this
      exact this
    obtain ⟨c, o, σ', τ', g1, g2, g3, g4⟩ := call_both (VP := fun _ _ => True) h hw hck htt (ckN (x1 := 1) hw hN (by decide) h1 (-4) 0) (fun _ _ _ _ q => q.elim)
    rw [e1, bd_n, lt_n, if_neg (by decide)]
    dsimp only
    rw [g1, g2, bd_n, bd_n]
    rcases g4 with ⟨rfl, q⟩ | ⟨-, -, q⟩
    · rw [if_neg q]
      exact ⟨_, _, _, rfl, rfl, sm_next g3⟩
    · exact q.elim
  · have e1 : f_X7_noMotor τ (z + 173) (nI i) = some (0, τ) := by
      have := m_noY (τ := τ) hN hc hw.2.2.2.1.1.2 hi
      rw [← ew] at this
      exact this
    have e2 : f_X7_of τ (z + 173) (nI i) 5 = some (τ.1 (z + 174) (8 + 20 * i + 5), τ) := by
      have := m_of5 (τ := τ) (r := τ.1 (z + 174)) hN (show i < 8 by omega)
      rw [← ew] at this
      exact this
    obtain ⟨c, o, σ', τ', g1, g2, g3, g4⟩ := call_both (VP := fun v _ => v = τ.1 (z + 174) (8 + 20 * i + 5)) h hw hck htt (ck1 hw hN hi (-4) 0) (fun σ' τ' k1 k2 _ => by
      obtain ⟨s1, s2, s3, s4, s5, s6, s7, s8, s9, -⟩ := co1 k1 k2 hi (by omega) (-4) 0
      exact ⟨_, s1, s2, s3, s4, s5, s6, s7, s8, s9, rfl⟩)
    rw [e1, bd_n, lt_n, if_pos rfl, e2, bd_n]
    dsimp only
    rw [g1, g2, bd_n, bd_n]
    rcases g4 with ⟨rfl, q⟩ | ⟨rfl, q, -⟩
    · rw [if_neg q]
      exact ⟨_, _, _, rfl, rfl, sm_next g3⟩
    · rw [if_pos (by decide), q]
      exact ⟨_, _, _, rfl, rfl, sm_next g3⟩
theorem sm_reset {z k : Nat} {σ τ : bz_W} (h : bz_Rel z k σ τ) (hk : k < 512) (x1 : Int32) : ∃ v σ1 τ1, f_X6_reset σ z x1 = some (v, σ1) ∧ f_X7_reset τ (z + 173) x1 = some (v, τ1) ∧ bz_Rel z (k + 1) σ1 τ1 := by
  obtain ⟨cnt, ck, t, sz, nx, hw, hN, a1, hr, hck, htt⟩ := Rel.nw h
  have hc := hw.2.2.2.2.1.1
  unfold f_X6_reset f_X7_reset
  rcases (show (x1 < 0 ∨ nI cnt ≤ x1) ∨ ∃ j : Nat, j < cnt ∧ x1 = nI j by rcases pk_ix x1 (n := cnt) (by omega) with q | q | q; exact Or.inl (Or.inl q); exact Or.inl (Or.inr q); exact Or.inr q) with h1 | ⟨i, hi, rfl⟩
  · obtain ⟨c, o, σ', τ', g1, g2, g3, g4⟩ := call_both (VP := fun _ _ => True) h hw hck htt (ckN (x1 := 3) hw hN (by decide) h1 (-4) 0) (fun _ _ _ _ q => q.elim)
    rw [g1, g2, bd_n, bd_n]
    rcases g4 with ⟨rfl, q⟩ | ⟨-, -, q⟩
    · rw [if_neg q]
      exact ⟨_, _, _, rfl, rfl, sm_next g3⟩
    · exact q.elim
  · obtain ⟨c, o, σ', τ', g1, g2, g3, g4⟩ := call_both (VP := fun v r' => v = r' (8 + 20 * i + 6)) h hw hck htt (ck3 hw hN hi (-4) 0) (fun σ' τ' k1 k2 _ => co3 k1 k2 hi (by omega) (-4) 0)
    rw [g1, g2, bd_n, bd_n]
    rcases g4 with ⟨rfl, q⟩ | ⟨rfl, q, -⟩
    · rw [if_neg q]
      exact ⟨_, _, _, rfl, rfl, sm_next g3⟩
    · obtain ⟨-, -, -, -, -, -, hN', -⟩ := Rel.nw g3
      have e2 : f_X7_of τ' (z + 173) (nI i) 6 = some (τ'.1 (z + 174) (8 + 20 * i + 6), τ') := by
        have := m_of6 (τ := τ') (r := τ'.1 (z + 174)) hN' (show i < 8 by omega)
        rw [wb_id] at this
        exact this
      rw [if_pos (by decide), e2, bd_n, q]
      exact ⟨_, _, _, rfl, rfl, sm_next g3⟩
theorem sm_losePhases {z k : Nat} {σ τ : bz_W} (h : bz_Rel z k σ τ) (hk : k < 512) (x1 x2 : Int32) : ∃ v σ1 τ1, f_X6_losePhases σ z x1 x2 = some (v, σ1) ∧ f_X7_losePhases τ (z + 173) x1 x2 = some (v, τ1) ∧ bz_Rel z (k + 1) σ1 τ1 := by
  obtain ⟨cnt, ck, t, sz, nx, hw, hN, a1, hr, hck, htt⟩ := Rel.nw h
  have hc := hw.2.2.2.2.1.1
  have ew : τ = bz_wb τ (z + 174) (τ.1 (z + 174)) := (wb_id τ (z + 174)).symm
  unfold f_X6_losePhases f_X7_losePhases
  rcases (show (x1 < 0 ∨ nI cnt ≤ x1) ∨ ∃ j : Nat, j < cnt ∧ x1 = nI j by rcases pk_ix x1 (n := cnt) (by omega) with q | q | q; exact Or.inl (Or.inl q); exact Or.inl (Or.inr q); exact Or.inr q) with h1 | ⟨i, hi, rfl⟩
  · have e1 : f_X7_noMotor τ (z + 173) x1 = some (1, τ) := by
      have := m_noN (τ := τ) hN hc hw.2.2.2.1.1.2 h1
      rw [← ew] at this
      exact this
    rw [e1, bd_n, if_neg (by decide)]
    unfold f_X6_callOrder f_X6_checkOrder
    rw [if_neg (show ¬ (2 : Int32) = 4 by decide), hw.2.2.2.2.2.1, c_findN hc hw.2.2.2.1.1.1 h1, bd_n, if_pos rfl, bd_n, if_neg (by decide), bd_n]
    exact ⟨_, _, _, rfl, rfl, sm_idle h⟩
  · have e1 : f_X7_noMotor τ (z + 173) (nI i) = some (0, τ) := by
      have := m_noY (τ := τ) hN hc hw.2.2.2.1.1.2 hi
      rw [← ew] at this
      exact this
    have e2 : f_X7_of τ (z + 173) (nI i) 7 = some (τ.1 (z + 174) (8 + 20 * i + 7), τ) := by
      have := m_of7 (τ := τ) (r := τ.1 (z + 174)) hN (show i < 8 by omega)
      rw [← ew] at this
      exact this
    rw [e1, bd_n, if_pos rfl]
    rcases io_cases x2 0 7 with ⟨c1, c2, c3, c4⟩ | ⟨c1, c2⟩
    · obtain ⟨p, -, hp, rfl⟩ := rng 0 7 rfl rfl (by omega) (by omega) c3 c4
      obtain ⟨c, o, σ', τ', g1, g2, g3, g4⟩ := call_both (VP := fun v _ => v = τ.1 (z + 174) (8 + 20 * i + 7)) h hw hck htt (ck2 hw hN hi hp) (fun σ' τ' k1 k2 _ => by
        obtain ⟨s1, s2, s3, s4, s5, s6, s7, s8, s9, -⟩ := co2 k1 k2 hi (by omega) hp
        exact ⟨_, s1, s2, s3, s4, s5, s6, s7, s8, s9, rfl⟩)
      rw [c2, bd_n, if_neg (by decide), e2, bd_n, g1, g2, bd_n, bd_n]
      rcases g4 with ⟨rfl, q⟩ | ⟨rfl, q, -⟩
      · rw [if_neg q]
        exact ⟨_, _, _, rfl, rfl, sm_next g3⟩
      · rw [if_pos (by decide), q]
        exact ⟨_, _, _, rfl, rfl, sm_next g3⟩
    · rw [c2, bd_n, if_pos rfl]
      unfold f_X6_callOrder f_X6_checkOrder f_X6_checkLoss
      rw [if_neg (show ¬ (2 : Int32) = 4 by decide), hw.2.2.2.2.2.1, hw.find hi, bd_n, if_neg (q_ne z i), if_neg (show ¬ (2 : Int32) = 0 by decide), if_neg (show ¬ (2 : Int32) = 1 by decide), if_pos rfl, c1, bd_n, if_neg (by decide), bd_n, bd_n, if_neg (by decide), bd_n]
      exact ⟨_, _, _, rfl, rfl, sm_idle h⟩
theorem sm_setFan {z k : Nat} {σ τ : bz_W} (h : bz_Rel z k σ τ) (hk : k < 512) (x1 : Int32) (hb : x1 = 0 ∨ x1 = 1) : ∃ v σ1 τ1, f_X6_setFan σ z x1 = some (v, σ1) ∧ f_X7_setFan τ (z + 173) x1 = some (v, τ1) ∧ bz_Rel z (k + 1) σ1 τ1 := by
  obtain ⟨cnt, ck, t, sz, nx, hw, hN, a1, hr, hck, htt⟩ := Rel.nw h
  obtain ⟨c, o, σ', τ', g1, g2, g3, g4⟩ := call_both (VP := fun v _ => v = x1) h hw hck htt (ck4 hw hN hb (-4) 0) (fun σ' τ' k1 k2 _ => by
      obtain ⟨s1, s2, s3, s4, s5, s6, s7, s8, s9, -⟩ := co4 k1 k2 hb (-4) 0
      exact ⟨_, s1, s2, s3, s4, s5, s6, s7, s8, s9, rfl⟩)
  -- the model's setFan in terms of its orders
  have hm : f_X7_setFan τ (z + 173) x1 = some (c, τ') := by
    obtain ⟨σ2, τ2, -, f2, f3, -⟩ := Rel.rec h
    obtain ⟨-, -, -, -, -, -, hN2, -⟩ := Rel.nw f3
    unfold f_X7_orders f_X7_wrongIn at g2
    rw [if_pos rfl, hN] at g2
    unfold f_X7_carryOut at g2
    unfold f_X7_setFan
    have core : (if τ.1 (z + 174) 3 = x1 then some ((-4 : Int32), τ) else bd_ (some ((0 : Int32), τ2)) fun _ σ7 => lt_ (bz_wi σ7 (σ7.2 (z + 173) 0) 3 x1) fun σ9 => some (x1, σ9)) = some (c, τ') := by
      by_cases e : τ.1 (z + 174) 3 = x1
      · rw [if_pos e, bd_n, if_pos (by decide), if_neg (by decide)] at g2
        rw [if_pos e]
        obtain ⟨q1, q2⟩ := Prod.mk.inj (Option.some.inj g2)
        rcases g4 with ⟨rfl, -⟩ | ⟨rfl, -, -⟩
        · rw [q1, q2]
        · exact absurd q1 (by decide)
      · rw [if_neg e, bd_n, if_pos (by decide), if_pos (by decide), f2, bd_n, if_neg (by decide), if_neg (by decide), if_neg (by decide), if_neg (by decide), lt_n, bd_n] at g2
        rw [if_neg e, bd_n, lt_n]
        obtain ⟨q1, q2⟩ := Prod.mk.inj (Option.some.inj g2)
        rcases g4 with ⟨rfl, q⟩ | ⟨-, q, -⟩
        · rw [← q1] at q
          exact absurd (by decide) q
        · rw [q2, q]
    rcases hb with rfl | rfl
    · rw [lt_n, if_pos rfl]
      dsimp only
      rw [hN, f2]
      exact core
    · rw [lt_n, if_neg (by decide)]
      dsimp only
      rw [hN, f2]
      exact core
  have hcl : f_X6_setFan σ z x1 = some (c, σ') := by
    unfold f_X6_setFan
    rcases hb with rfl | rfl
    · rw [if_pos rfl, g1, bd_n]
    · rw [if_neg (by decide), g1, bd_n]
  exact ⟨c, σ', τ', hcl, hm, sm_next g3⟩
